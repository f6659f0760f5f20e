theorem dJ7_fill_d0a16_0 : decode cJ7_fill_d0a16 0 = .ok (.iconst 0, 1) := by decide +kernel
theorem dJ7_fill_d0a16_1 : decode cJ7_fill_d0a16 1 = .ok (.istore_n 3, 1) := by decide +kernel
theorem dJ7_fill_d0a16_2 : decode cJ7_fill_d0a16 2 = .ok (.aload_n 0, 1) := by decide +kernel
theorem dJ7_fill_d0a16_3 : decode cJ7_fill_d0a16 3 = .ok (.arraylength, 1) := by decide +kernel
theorem dJ7_fill_d0a16_4 : decode cJ7_fill_d0a16 4 = .ok (.istore 4, 2) := by decide +kernel
theorem dJ7_fill_d0a16_6 : decode cJ7_fill_d0a16 6 = .ok (.iload_n 3, 1) := by decide +kernel
theorem dJ7_fill_d0a16_7 : decode cJ7_fill_d0a16 7 = .ok (.iload 4, 2) := by decide +kernel
theorem dJ7_fill_d0a16_9 : decode cJ7_fill_d0a16 9 = .ok (.if_icmp .ge 13, 3) := by decide +kernel
theorem dJ7_fill_d0a16_12 : decode cJ7_fill_d0a16 12 = .ok (.aload_n 0, 1) := by decide +kernel
theorem dJ7_fill_d0a16_13 : decode cJ7_fill_d0a16 13 = .ok (.iload_n 3, 1) := by decide +kernel
theorem dJ7_fill_d0a16_14 : decode cJ7_fill_d0a16 14 = .ok (.lload_n 1, 1) := by decide +kernel
theorem dJ7_fill_d0a16_15 : decode cJ7_fill_d0a16 15 = .ok (.lastore, 1) := by decide +kernel
theorem dJ7_fill_d0a16_16 : decode cJ7_fill_d0a16 16 = .ok (.iinc 3 1, 3) := by decide +kernel
theorem dJ7_fill_d0a16_19 : decode cJ7_fill_d0a16 19 = .ok (.goto (-13), 3) := by decide +kernel
theorem dJ7_fill_d0a16_22 : decode cJ7_fill_d0a16 22 = .ok (.return_, 1) := by decide +kernel
theorem dJ7_fill_53178_0 : decode cJ7_fill_53178 0 = .ok (.iconst 0, 1) := by decide +kernel
theorem dJ7_fill_53178_1 : decode cJ7_fill_53178 1 = .ok (.istore_n 2, 1) := by decide +kernel
theorem dJ7_fill_53178_2 : decode cJ7_fill_53178 2 = .ok (.aload_n 0, 1) := by decide +kernel
theorem dJ7_fill_53178_3 : decode cJ7_fill_53178 3 = .ok (.arraylength, 1) := by decide +kernel
theorem dJ7_fill_53178_4 : decode cJ7_fill_53178 4 = .ok (.istore_n 3, 1) := by decide +kernel
theorem dJ7_fill_53178_5 : decode cJ7_fill_53178 5 = .ok (.iload_n 2, 1) := by decide +kernel
theorem dJ7_fill_53178_6 : decode cJ7_fill_53178 6 = .ok (.iload_n 3, 1) := by decide +kernel
theorem dJ7_fill_53178_7 : decode cJ7_fill_53178 7 = .ok (.if_icmp .ge 13, 3) := by decide +kernel
theorem dJ7_fill_53178_10 : decode cJ7_fill_53178 10 = .ok (.aload_n 0, 1) := by decide +kernel
theorem dJ7_fill_53178_11 : decode cJ7_fill_53178 11 = .ok (.iload_n 2, 1) := by decide +kernel
theorem dJ7_fill_53178_12 : decode cJ7_fill_53178 12 = .ok (.iload_n 1, 1) := by decide +kernel
theorem dJ7_fill_53178_13 : decode cJ7_fill_53178 13 = .ok (.iastore, 1) := by decide +kernel
theorem dJ7_fill_53178_14 : decode cJ7_fill_53178 14 = .ok (.iinc 2 1, 3) := by decide +kernel
theorem dJ7_fill_53178_17 : decode cJ7_fill_53178 17 = .ok (.goto (-12), 3) := by decide +kernel
theorem dJ7_fill_53178_20 : decode cJ7_fill_53178 20 = .ok (.return_, 1) := by decide +kernel
theorem dJ9_max_7cf53_0 : decode cJ9_max_7cf53 0 = .ok (.iload_n 0, 1) := by decide +kernel
theorem dJ9_max_7cf53_1 : decode cJ9_max_7cf53 1 = .ok (.iload_n 1, 1) := by decide +kernel
theorem dJ9_max_7cf53_2 : decode cJ9_max_7cf53 2 = .ok (.if_icmp .lt 7, 3) := by decide +kernel
theorem dJ9_max_7cf53_5 : decode cJ9_max_7cf53 5 = .ok (.iload_n 0, 1) := by decide +kernel
theorem dJ9_max_7cf53_6 : decode cJ9_max_7cf53 6 = .ok (.goto 4, 3) := by decide +kernel
theorem dJ9_max_7cf53_9 : decode cJ9_max_7cf53 9 = .ok (.iload_n 1, 1) := by decide +kernel
theorem dJ9_max_7cf53_10 : decode cJ9_max_7cf53 10 = .ok (.ireturn, 1) := by decide +kernel
theorem dJ9_min_7cf53_0 : decode cJ9_min_7cf53 0 = .ok (.iload_n 0, 1) := by decide +kernel
theorem dJ9_min_7cf53_1 : decode cJ9_min_7cf53 1 = .ok (.iload_n 1, 1) := by decide +kernel
theorem dJ9_min_7cf53_2 : decode cJ9_min_7cf53 2 = .ok (.if_icmp .gt 7, 3) := by decide +kernel
theorem dJ9_min_7cf53_5 : decode cJ9_min_7cf53 5 = .ok (.iload_n 0, 1) := by decide +kernel
theorem dJ9_min_7cf53_6 : decode cJ9_min_7cf53 6 = .ok (.goto 4, 3) := by decide +kernel
theorem dJ9_min_7cf53_9 : decode cJ9_min_7cf53 9 = .ok (.iload_n 1, 1) := by decide +kernel
theorem dJ9_min_7cf53_10 : decode cJ9_min_7cf53 10 = .ok (.ireturn, 1) := by decide +kernel
theorem dX0_init_0 : decode cX0_init 0 = .ok (.aload_n 0, 1) := by decide +kernel
theorem dX0_init_1 : decode cX0_init 1 = .ok (.invokespecial 3, 3) := by decide +kernel
theorem dX0_init_4 : decode cX0_init 4 = .ok (.aload_n 0, 1) := by decide +kernel
theorem dX0_init_5 : decode cX0_init 5 = .ok (.bipush 99, 2) := by decide +kernel
theorem dX0_init_7 : decode cX0_init 7 = .ok (.newarray .int, 2) := by decide +kernel
theorem dX0_init_9 : decode cX0_init 9 = .ok (.putfield 9, 3) := by decide +kernel
theorem dX0_init_12 : decode cX0_init 12 = .ok (.return_, 1) := by decide +kernel
theorem dX0_measure_0 : decode cX0_measure 0 = .ok (.aload_n 0, 1) := by decide +kernel
theorem dX0_measure_1 : decode cX0_measure 1 = .ok (.iconst 0, 1) := by decide +kernel
theorem dX0_measure_2 : decode cX0_measure 2 = .ok (.putfield 15, 3) := by decide +kernel
theorem dX0_measure_5 : decode cX0_measure 5 = .ok (.iconst 0, 1) := by decide +kernel
theorem dX0_measure_6 : decode cX0_measure 6 = .ok (.istore_n 2, 1) := by decide +kernel
theorem dX0_measure_7 : decode cX0_measure 7 = .ok (.iload_n 2, 1) := by decide +kernel
theorem dX0_measure_8 : decode cX0_measure 8 = .ok (.bipush 6, 2) := by decide +kernel
theorem dX0_measure_10 : decode cX0_measure 10 = .ok (.if_icmp .ge 34, 3) := by decide +kernel
theorem dX0_measure_13 : decode cX0_measure 13 = .ok (.aload_n 0, 1) := by decide +kernel
theorem dX0_measure_14 : decode cX0_measure 14 = .ok (.getfield 15, 3) := by decide +kernel
theorem dX0_measure_17 : decode cX0_measure 17 = .ok (.ifCond .ne 21, 3) := by decide +kernel
theorem dX0_measure_20 : decode cX0_measure 20 = .ok (.aload_n 1, 1) := by decide +kernel
theorem dX0_measure_21 : decode cX0_measure 21 = .ok (.iload_n 2, 1) := by decide +kernel
theorem dX0_measure_22 : decode cX0_measure 22 = .ok (.invokevirtual 19, 3) := by decide +kernel
theorem dX0_measure_25 : decode cX0_measure 25 = .ok (.ifCond .eq 13, 3) := by decide +kernel
theorem dX0_measure_28 : decode cX0_measure 28 = .ok (.aload_n 0, 1) := by decide +kernel
theorem dX0_measure_29 : decode cX0_measure 29 = .ok (.aload_n 1, 1) := by decide +kernel
theorem dX0_measure_30 : decode cX0_measure 30 = .ok (.getfield 25, 3) := by decide +kernel
theorem dX0_measure_33 : decode cX0_measure 33 = .ok (.iload_n 2, 1) := by decide +kernel
theorem dX0_measure_34 : decode cX0_measure 34 = .ok (.iaload, 1) := by decide +kernel
theorem dX0_measure_35 : decode cX0_measure 35 = .ok (.putfield 15, 3) := by decide +kernel
theorem dX0_measure_38 : decode cX0_measure 38 = .ok (.iinc 2 1, 3) := by decide +kernel
theorem dX0_measure_41 : decode cX0_measure 41 = .ok (.goto (-34), 3) := by decide +kernel
theorem dX0_measure_44 : decode cX0_measure 44 = .ok (.aload_n 0, 1) := by decide +kernel
theorem dX0_measure_45 : decode cX0_measure 45 = .ok (.getfield 9, 3) := by decide +kernel
theorem dX0_measure_48 : decode cX0_measure 48 = .ok (.ldc 28, 2) := by decide +kernel
theorem dX0_measure_50 : decode cX0_measure 50 = .ok (.invokestatic 29, 3) := by decide +kernel
theorem dX0_measure_53 : decode cX0_measure 53 = .ok (.aload_n 0, 1) := by decide +kernel
theorem dX0_measure_54 : decode cX0_measure 54 = .ok (.getfield 9, 3) := by decide +kernel
theorem dX0_measure_57 : decode cX0_measure 57 = .ok (.iconst 0, 1) := by decide +kernel
theorem dX0_measure_58 : decode cX0_measure 58 = .ok (.iconst 0, 1) := by decide +kernel
theorem dX0_measure_59 : decode cX0_measure 59 = .ok (.iastore, 1) := by decide +kernel
theorem dX0_measure_60 : decode cX0_measure 60 = .ok (.iconst 0, 1) := by decide +kernel
theorem dX0_measure_61 : decode cX0_measure 61 = .ok (.istore_n 2, 1) := by decide +kernel
theorem dX0_measure_62 : decode cX0_measure 62 = .ok (.iload_n 2, 1) := by decide +kernel
theorem dX0_measure_63 : decode cX0_measure 63 = .ok (.bipush 6, 2) := by decide +kernel
theorem dX0_measure_65 : decode cX0_measure 65 = .ok (.if_icmp .ge 27, 3) := by decide +kernel
theorem dX0_measure_68 : decode cX0_measure 68 = .ok (.aload_n 1, 1) := by decide +kernel
theorem dX0_measure_69 : decode cX0_measure 69 = .ok (.iload_n 2, 1) := by decide +kernel
theorem dX0_measure_70 : decode cX0_measure 70 = .ok (.invokevirtual 19, 3) := by decide +kernel
theorem dX0_measure_73 : decode cX0_measure 73 = .ok (.ifCond .eq 13, 3) := by decide +kernel
theorem dX0_measure_76 : decode cX0_measure 76 = .ok (.aload_n 0, 1) := by decide +kernel
theorem dX0_measure_77 : decode cX0_measure 77 = .ok (.aload_n 1, 1) := by decide +kernel
theorem dX0_measure_78 : decode cX0_measure 78 = .ok (.getfield 25, 3) := by decide +kernel
theorem dX0_measure_81 : decode cX0_measure 81 = .ok (.iload_n 2, 1) := by decide +kernel
theorem dX0_measure_82 : decode cX0_measure 82 = .ok (.iaload, 1) := by decide +kernel
theorem dX0_measure_83 : decode cX0_measure 83 = .ok (.invokevirtual 35, 3) := by decide +kernel
theorem dX0_measure_86 : decode cX0_measure 86 = .ok (.iinc 2 1, 3) := by decide +kernel
theorem dX0_measure_89 : decode cX0_measure 89 = .ok (.goto (-27), 3) := by decide +kernel
theorem dX0_measure_92 : decode cX0_measure 92 = .ok (.return_, 1) := by decide +kernel
theorem dX0_leavesGapsForEver_0 : decode cX0_leavesGapsForEver 0 = .ok (.iconst 0, 1) := by decide +kernel
theorem dX0_leavesGapsForEver_1 : decode cX0_leavesGapsForEver 1 = .ok (.istore_n 1, 1) := by decide +kernel
theorem dX0_leavesGapsForEver_2 : decode cX0_leavesGapsForEver 2 = .ok (.iload_n 1, 1) := by decide +kernel
theorem dX0_leavesGapsForEver_3 : decode cX0_leavesGapsForEver 3 = .ok (.aload_n 0, 1) := by decide +kernel
theorem dX0_leavesGapsForEver_4 : decode cX0_leavesGapsForEver 4 = .ok (.getfield 15, 3) := by decide +kernel
theorem dX0_leavesGapsForEver_7 : decode cX0_leavesGapsForEver 7 = .ok (.if_icmp .ge 22, 3) := by decide +kernel
theorem dX0_leavesGapsForEver_10 : decode cX0_leavesGapsForEver 10 = .ok (.aload_n 0, 1) := by decide +kernel
theorem dX0_leavesGapsForEver_11 : decode cX0_leavesGapsForEver 11 = .ok (.getfield 9, 3) := by decide +kernel
theorem dX0_leavesGapsForEver_14 : decode cX0_leavesGapsForEver 14 = .ok (.iload_n 1, 1) := by decide +kernel
theorem dX0_leavesGapsForEver_15 : decode cX0_leavesGapsForEver 15 = .ok (.iaload, 1) := by decide +kernel
theorem dX0_leavesGapsForEver_16 : decode cX0_leavesGapsForEver 16 = .ok (.ldc 28, 2) := by decide +kernel
theorem dX0_leavesGapsForEver_18 : decode cX0_leavesGapsForEver 18 = .ok (.if_icmp .ne 5, 3) := by decide +kernel
theorem dX0_leavesGapsForEver_21 : decode cX0_leavesGapsForEver 21 = .ok (.iconst 1, 1) := by decide +kernel
theorem dX0_leavesGapsForEver_22 : decode cX0_leavesGapsForEver 22 = .ok (.ireturn, 1) := by decide +kernel
theorem dX0_leavesGapsForEver_23 : decode cX0_leavesGapsForEver 23 = .ok (.iinc 1 1, 3) := by decide +kernel
theorem dX0_leavesGapsForEver_26 : decode cX0_leavesGapsForEver 26 = .ok (.goto (-24), 3) := by decide +kernel
theorem dX0_leavesGapsForEver_29 : decode cX0_leavesGapsForEver 29 = .ok (.aload_n 0, 1) := by decide +kernel
theorem dX0_leavesGapsForEver_30 : decode cX0_leavesGapsForEver 30 = .ok (.getfield 15, 3) := by decide +kernel
theorem dX0_leavesGapsForEver_33 : decode cX0_leavesGapsForEver 33 = .ok (.ifCond .ne 7, 3) := by decide +kernel
theorem dX0_leavesGapsForEver_36 : decode cX0_leavesGapsForEver 36 = .ok (.iconst 1, 1) := by decide +kernel
theorem dX0_leavesGapsForEver_37 : decode cX0_leavesGapsForEver 37 = .ok (.goto 4, 3) := by decide +kernel
theorem dX0_leavesGapsForEver_40 : decode cX0_leavesGapsForEver 40 = .ok (.iconst 0, 1) := by decide +kernel
theorem dX0_leavesGapsForEver_41 : decode cX0_leavesGapsForEver 41 = .ok (.ireturn, 1) := by decide +kernel
theorem dX0_greatestStuck_0 : decode cX0_greatestStuck 0 = .ok (.iconst (-1), 1) := by decide +kernel
theorem dX0_greatestStuck_1 : decode cX0_greatestStuck 1 = .ok (.istore_n 1, 1) := by decide +kernel
theorem dX0_greatestStuck_2 : decode cX0_greatestStuck 2 = .ok (.iconst 0, 1) := by decide +kernel
theorem dX0_greatestStuck_3 : decode cX0_greatestStuck 3 = .ok (.istore_n 2, 1) := by decide +kernel
theorem dX0_greatestStuck_4 : decode cX0_greatestStuck 4 = .ok (.iload_n 2, 1) := by decide +kernel
theorem dX0_greatestStuck_5 : decode cX0_greatestStuck 5 = .ok (.aload_n 0, 1) := by decide +kernel
theorem dX0_greatestStuck_6 : decode cX0_greatestStuck 6 = .ok (.getfield 15, 3) := by decide +kernel
theorem dX0_greatestStuck_9 : decode cX0_greatestStuck 9 = .ok (.if_icmp .ge 25, 3) := by decide +kernel
theorem dX0_greatestStuck_12 : decode cX0_greatestStuck 12 = .ok (.iload_n 1, 1) := by decide +kernel
theorem dX0_greatestStuck_13 : decode cX0_greatestStuck 13 = .ok (.aload_n 0, 1) := by decide +kernel
theorem dX0_greatestStuck_14 : decode cX0_greatestStuck 14 = .ok (.getfield 9, 3) := by decide +kernel
theorem dX0_greatestStuck_17 : decode cX0_greatestStuck 17 = .ok (.iload_n 2, 1) := by decide +kernel
theorem dX0_greatestStuck_18 : decode cX0_greatestStuck 18 = .ok (.iaload, 1) := by decide +kernel
theorem dX0_greatestStuck_19 : decode cX0_greatestStuck 19 = .ok (.aload_n 0, 1) := by decide +kernel
theorem dX0_greatestStuck_20 : decode cX0_greatestStuck 20 = .ok (.getfield 15, 3) := by decide +kernel
theorem dX0_greatestStuck_23 : decode cX0_greatestStuck 23 = .ok (.isub, 1) := by decide +kernel
theorem dX0_greatestStuck_24 : decode cX0_greatestStuck 24 = .ok (.invokestatic 39, 3) := by decide +kernel
theorem dX0_greatestStuck_27 : decode cX0_greatestStuck 27 = .ok (.istore_n 1, 1) := by decide +kernel
theorem dX0_greatestStuck_28 : decode cX0_greatestStuck 28 = .ok (.iinc 2 1, 3) := by decide +kernel
theorem dX0_greatestStuck_31 : decode cX0_greatestStuck 31 = .ok (.goto (-27), 3) := by decide +kernel
theorem dX0_greatestStuck_34 : decode cX0_greatestStuck 34 = .ok (.iload_n 1, 1) := by decide +kernel
theorem dX0_greatestStuck_35 : decode cX0_greatestStuck 35 = .ok (.ireturn, 1) := by decide +kernel
theorem dX0_stuckSums_0 : decode cX0_stuckSums 0 = .ok (.aload_n 0, 1) := by decide +kernel
theorem dX0_stuckSums_1 : decode cX0_stuckSums 1 = .ok (.getfield 15, 3) := by decide +kernel
theorem dX0_stuckSums_4 : decode cX0_stuckSums 4 = .ok (.ifCond .gt 5, 3) := by decide +kernel
theorem dX0_stuckSums_7 : decode cX0_stuckSums 7 = .ok (.iconst 0, 1) := by decide +kernel
theorem dX0_stuckSums_8 : decode cX0_stuckSums 8 = .ok (.ireturn, 1) := by decide +kernel
theorem dX0_stuckSums_9 : decode cX0_stuckSums 9 = .ok (.iconst 0, 1) := by decide +kernel
theorem dX0_stuckSums_10 : decode cX0_stuckSums 10 = .ok (.istore_n 1, 1) := by decide +kernel
theorem dX0_stuckSums_11 : decode cX0_stuckSums 11 = .ok (.iconst 0, 1) := by decide +kernel
theorem dX0_stuckSums_12 : decode cX0_stuckSums 12 = .ok (.istore_n 2, 1) := by decide +kernel
theorem dX0_stuckSums_13 : decode cX0_stuckSums 13 = .ok (.iload_n 2, 1) := by decide +kernel
theorem dX0_stuckSums_14 : decode cX0_stuckSums 14 = .ok (.aload_n 0, 1) := by decide +kernel
theorem dX0_stuckSums_15 : decode cX0_stuckSums 15 = .ok (.getfield 15, 3) := by decide +kernel
theorem dX0_stuckSums_18 : decode cX0_stuckSums 18 = .ok (.if_icmp .ge 23, 3) := by decide +kernel
theorem dX0_stuckSums_21 : decode cX0_stuckSums 21 = .ok (.iload_n 1, 1) := by decide +kernel
theorem dX0_stuckSums_22 : decode cX0_stuckSums 22 = .ok (.aload_n 0, 1) := by decide +kernel
theorem dX0_stuckSums_23 : decode cX0_stuckSums 23 = .ok (.getfield 9, 3) := by decide +kernel
theorem dX0_stuckSums_26 : decode cX0_stuckSums 26 = .ok (.iload_n 2, 1) := by decide +kernel
theorem dX0_stuckSums_27 : decode cX0_stuckSums 27 = .ok (.iaload, 1) := by decide +kernel
theorem dX0_stuckSums_28 : decode cX0_stuckSums 28 = .ok (.aload_n 0, 1) := by decide +kernel
theorem dX0_stuckSums_29 : decode cX0_stuckSums 29 = .ok (.getfield 15, 3) := by decide +kernel
theorem dX0_stuckSums_32 : decode cX0_stuckSums 32 = .ok (.idiv, 1) := by decide +kernel
theorem dX0_stuckSums_33 : decode cX0_stuckSums 33 = .ok (.iadd, 1) := by decide +kernel
theorem dX0_stuckSums_34 : decode cX0_stuckSums 34 = .ok (.istore_n 1, 1) := by decide +kernel
theorem dX0_stuckSums_35 : decode cX0_stuckSums 35 = .ok (.iinc 2 1, 3) := by decide +kernel
theorem dX0_stuckSums_38 : decode cX0_stuckSums 38 = .ok (.goto (-25), 3) := by decide +kernel
theorem dX0_stuckSums_41 : decode cX0_stuckSums 41 = .ok (.iload_n 1, 1) := by decide +kernel
theorem dX0_stuckSums_42 : decode cX0_stuckSums 42 = .ok (.ireturn, 1) := by decide +kernel
theorem dX0_addPrice_0 : decode cX0_addPrice 0 = .ok (.aload_n 0, 1) := by decide +kernel
theorem dX0_addPrice_1 : decode cX0_addPrice 1 = .ok (.getfield 15, 3) := by decide +kernel
theorem dX0_addPrice_4 : decode cX0_addPrice 4 = .ok (.iload_n 1, 1) := by decide +kernel
theorem dX0_addPrice_5 : decode cX0_addPrice 5 = .ok (.invokestatic 45, 3) := by decide +kernel
theorem dX0_addPrice_8 : decode cX0_addPrice 8 = .ok (.istore_n 2, 1) := by decide +kernel
theorem dX0_addPrice_9 : decode cX0_addPrice 9 = .ok (.iconst 0, 1) := by decide +kernel
theorem dX0_addPrice_10 : decode cX0_addPrice 10 = .ok (.istore_n 3, 1) := by decide +kernel
theorem dX0_addPrice_11 : decode cX0_addPrice 11 = .ok (.iload_n 3, 1) := by decide +kernel
theorem dX0_addPrice_12 : decode cX0_addPrice 12 = .ok (.iload_n 2, 1) := by decide +kernel
theorem dX0_addPrice_13 : decode cX0_addPrice 13 = .ok (.if_icmp .ge 15, 3) := by decide +kernel
theorem dX0_addPrice_16 : decode cX0_addPrice 16 = .ok (.aload_n 0, 1) := by decide +kernel
theorem dX0_addPrice_17 : decode cX0_addPrice 17 = .ok (.iload_n 3, 1) := by decide +kernel
theorem dX0_addPrice_18 : decode cX0_addPrice 18 = .ok (.iload_n 1, 1) := by decide +kernel
theorem dX0_addPrice_19 : decode cX0_addPrice 19 = .ok (.invokevirtual 48, 3) := by decide +kernel
theorem dX0_addPrice_22 : decode cX0_addPrice 22 = .ok (.iinc 3 1, 3) := by decide +kernel
theorem dX0_addPrice_25 : decode cX0_addPrice 25 = .ok (.goto (-14), 3) := by decide +kernel
theorem dX0_addPrice_28 : decode cX0_addPrice 28 = .ok (.return_, 1) := by decide +kernel
theorem dX0_goRound_0 : decode cX0_goRound 0 = .ok (.aload_n 0, 1) := by decide +kernel
theorem dX0_goRound_1 : decode cX0_goRound 1 = .ok (.getfield 15, 3) := by decide +kernel
theorem dX0_goRound_4 : decode cX0_goRound 4 = .ok (.ifCond .gt 4, 3) := by decide +kernel
theorem dX0_goRound_7 : decode cX0_goRound 7 = .ok (.return_, 1) := by decide +kernel
theorem dX0_goRound_8 : decode cX0_goRound 8 = .ok (.iload_n 1, 1) := by decide +kernel
theorem dX0_goRound_9 : decode cX0_goRound 9 = .ok (.istore_n 3, 1) := by decide +kernel
theorem dX0_goRound_10 : decode cX0_goRound 10 = .ok (.iconst 0, 1) := by decide +kernel
theorem dX0_goRound_11 : decode cX0_goRound 11 = .ok (.istore 4, 2) := by decide +kernel
theorem dX0_goRound_13 : decode cX0_goRound 13 = .ok (.iload 4, 2) := by decide +kernel
theorem dX0_goRound_15 : decode cX0_goRound 15 = .ok (.iconst 2, 1) := by decide +kernel
theorem dX0_goRound_16 : decode cX0_goRound 16 = .ok (.aload_n 0, 1) := by decide +kernel
theorem dX0_goRound_17 : decode cX0_goRound 17 = .ok (.getfield 15, 3) := by decide +kernel
theorem dX0_goRound_20 : decode cX0_goRound 20 = .ok (.imul, 1) := by decide +kernel
theorem dX0_goRound_21 : decode cX0_goRound 21 = .ok (.if_icmp .ge 47, 3) := by decide +kernel
theorem dX0_goRound_24 : decode cX0_goRound 24 = .ok (.iload_n 3, 1) := by decide +kernel
theorem dX0_goRound_25 : decode cX0_goRound 25 = .ok (.iload_n 2, 1) := by decide +kernel
theorem dX0_goRound_26 : decode cX0_goRound 26 = .ok (.iadd, 1) := by decide +kernel
theorem dX0_goRound_27 : decode cX0_goRound 27 = .ok (.aload_n 0, 1) := by decide +kernel
theorem dX0_goRound_28 : decode cX0_goRound 28 = .ok (.getfield 15, 3) := by decide +kernel
theorem dX0_goRound_31 : decode cX0_goRound 31 = .ok (.irem, 1) := by decide +kernel
theorem dX0_goRound_32 : decode cX0_goRound 32 = .ok (.istore 5, 2) := by decide +kernel
theorem dX0_goRound_34 : decode cX0_goRound 34 = .ok (.aload_n 0, 1) := by decide +kernel
theorem dX0_goRound_35 : decode cX0_goRound 35 = .ok (.getfield 9, 3) := by decide +kernel
theorem dX0_goRound_38 : decode cX0_goRound 38 = .ok (.iload 5, 2) := by decide +kernel
theorem dX0_goRound_40 : decode cX0_goRound 40 = .ok (.aload_n 0, 1) := by decide +kernel
theorem dX0_goRound_41 : decode cX0_goRound 41 = .ok (.getfield 9, 3) := by decide +kernel
theorem dX0_goRound_44 : decode cX0_goRound 44 = .ok (.iload 5, 2) := by decide +kernel
theorem dX0_goRound_46 : decode cX0_goRound 46 = .ok (.iaload, 1) := by decide +kernel
theorem dX0_goRound_47 : decode cX0_goRound 47 = .ok (.aload_n 0, 1) := by decide +kernel
theorem dX0_goRound_48 : decode cX0_goRound 48 = .ok (.getfield 9, 3) := by decide +kernel
theorem dX0_goRound_51 : decode cX0_goRound 51 = .ok (.iload_n 3, 1) := by decide +kernel
theorem dX0_goRound_52 : decode cX0_goRound 52 = .ok (.iaload, 1) := by decide +kernel
theorem dX0_goRound_53 : decode cX0_goRound 53 = .ok (.iload_n 2, 1) := by decide +kernel
theorem dX0_goRound_54 : decode cX0_goRound 54 = .ok (.iadd, 1) := by decide +kernel
theorem dX0_goRound_55 : decode cX0_goRound 55 = .ok (.invokestatic 52, 3) := by decide +kernel
theorem dX0_goRound_58 : decode cX0_goRound 58 = .ok (.iastore, 1) := by decide +kernel
theorem dX0_goRound_59 : decode cX0_goRound 59 = .ok (.iload 5, 2) := by decide +kernel
theorem dX0_goRound_61 : decode cX0_goRound 61 = .ok (.istore_n 3, 1) := by decide +kernel
theorem dX0_goRound_62 : decode cX0_goRound 62 = .ok (.iinc 4 1, 3) := by decide +kernel
theorem dX0_goRound_65 : decode cX0_goRound 65 = .ok (.goto (-52), 3) := by decide +kernel
theorem dX0_goRound_68 : decode cX0_goRound 68 = .ok (.return_, 1) := by decide +kernel
theorem dX0_commonDivisor_0 : decode cX0_commonDivisor 0 = .ok (.iload_n 0, 1) := by decide +kernel
theorem dX0_commonDivisor_1 : decode cX0_commonDivisor 1 = .ok (.istore_n 2, 1) := by decide +kernel
theorem dX0_commonDivisor_2 : decode cX0_commonDivisor 2 = .ok (.iload_n 2, 1) := by decide +kernel
theorem dX0_commonDivisor_3 : decode cX0_commonDivisor 3 = .ok (.iconst 1, 1) := by decide +kernel
theorem dX0_commonDivisor_4 : decode cX0_commonDivisor 4 = .ok (.if_icmp .le 23, 3) := by decide +kernel
theorem dX0_commonDivisor_7 : decode cX0_commonDivisor 7 = .ok (.iload_n 0, 1) := by decide +kernel
theorem dX0_commonDivisor_8 : decode cX0_commonDivisor 8 = .ok (.iload_n 2, 1) := by decide +kernel
theorem dX0_commonDivisor_9 : decode cX0_commonDivisor 9 = .ok (.irem, 1) := by decide +kernel
theorem dX0_commonDivisor_10 : decode cX0_commonDivisor 10 = .ok (.ifCond .ne 11, 3) := by decide +kernel
theorem dX0_commonDivisor_13 : decode cX0_commonDivisor 13 = .ok (.iload_n 1, 1) := by decide +kernel
theorem dX0_commonDivisor_14 : decode cX0_commonDivisor 14 = .ok (.iload_n 2, 1) := by decide +kernel
theorem dX0_commonDivisor_15 : decode cX0_commonDivisor 15 = .ok (.irem, 1) := by decide +kernel
theorem dX0_commonDivisor_16 : decode cX0_commonDivisor 16 = .ok (.ifCond .ne 5, 3) := by decide +kernel
theorem dX0_commonDivisor_19 : decode cX0_commonDivisor 19 = .ok (.iload_n 2, 1) := by decide +kernel
theorem dX0_commonDivisor_20 : decode cX0_commonDivisor 20 = .ok (.ireturn, 1) := by decide +kernel
theorem dX0_commonDivisor_21 : decode cX0_commonDivisor 21 = .ok (.iinc 2 (-1), 3) := by decide +kernel
theorem dX0_commonDivisor_24 : decode cX0_commonDivisor 24 = .ok (.goto (-22), 3) := by decide +kernel
theorem dX0_commonDivisor_27 : decode cX0_commonDivisor 27 = .ok (.iconst 1, 1) := by decide +kernel
theorem dX0_commonDivisor_28 : decode cX0_commonDivisor 28 = .ok (.ireturn, 1) := by decide +kernel
theorem dX1_init_0 : decode cX1_init 0 = .ok (.aload_n 0, 1) := by decide +kernel
theorem dX1_init_1 : decode cX1_init 1 = .ok (.invokespecial 3, 3) := by decide +kernel
theorem dX1_init_4 : decode cX1_init 4 = .ok (.aload_n 0, 1) := by decide +kernel
theorem dX1_init_5 : decode cX1_init 5 = .ok (.bipush 40, 2) := by decide +kernel
theorem dX1_init_7 : decode cX1_init 7 = .ok (.newarray .int, 2) := by decide +kernel
theorem dX1_init_9 : decode cX1_init 9 = .ok (.putfield 9, 3) := by decide +kernel
theorem dX1_init_12 : decode cX1_init 12 = .ok (.aload_n 0, 1) := by decide +kernel
theorem dX1_init_13 : decode cX1_init 13 = .ok (.bipush 6, 2) := by decide +kernel
theorem dX1_init_15 : decode cX1_init 15 = .ok (.newarray .int, 2) := by decide +kernel
theorem dX1_init_17 : decode cX1_init 17 = .ok (.putfield 15, 3) := by decide +kernel
theorem dX1_init_20 : decode cX1_init 20 = .ok (.return_, 1) := by decide +kernel
theorem dX1_add_0 : decode cX1_add 0 = .ok (.aload_n 0, 1) := by decide +kernel
theorem dX1_add_1 : decode cX1_add 1 = .ok (.getfield 18, 3) := by decide +kernel
theorem dX1_add_4 : decode cX1_add 4 = .ok (.bipush 40, 2) := by decide +kernel
theorem dX1_add_6 : decode cX1_add 6 = .ok (.if_icmp .lt 5, 3) := by decide +kernel
theorem dX1_add_9 : decode cX1_add 9 = .ok (.iconst 0, 1) := by decide +kernel
theorem dX1_add_10 : decode cX1_add 10 = .ok (.ireturn, 1) := by decide +kernel
theorem dX1_add_11 : decode cX1_add 11 = .ok (.aload_n 0, 1) := by decide +kernel
theorem dX1_add_12 : decode cX1_add 12 = .ok (.getfield 9, 3) := by decide +kernel
theorem dX1_add_15 : decode cX1_add 15 = .ok (.aload_n 0, 1) := by decide +kernel
theorem dX1_add_16 : decode cX1_add 16 = .ok (.getfield 18, 3) := by decide +kernel
theorem dX1_add_19 : decode cX1_add 19 = .ok (.iload_n 1, 1) := by decide +kernel
theorem dX1_add_20 : decode cX1_add 20 = .ok (.iastore, 1) := by decide +kernel
theorem dX1_add_21 : decode cX1_add 21 = .ok (.aload_n 0, 1) := by decide +kernel
theorem dX1_add_22 : decode cX1_add 22 = .ok (.dup, 1) := by decide +kernel
theorem dX1_add_23 : decode cX1_add 23 = .ok (.getfield 18, 3) := by decide +kernel
theorem dX1_add_26 : decode cX1_add 26 = .ok (.iconst 1, 1) := by decide +kernel
theorem dX1_add_27 : decode cX1_add 27 = .ok (.iadd, 1) := by decide +kernel
theorem dX1_add_28 : decode cX1_add 28 = .ok (.putfield 18, 3) := by decide +kernel
theorem dX1_add_31 : decode cX1_add 31 = .ok (.iconst 1, 1) := by decide +kernel
theorem dX1_add_32 : decode cX1_add 32 = .ok (.ireturn, 1) := by decide +kernel
theorem dX1_firstWrong_0 : decode cX1_firstWrong 0 = .ok (.aload_n 0, 1) := by decide +kernel
theorem dX1_firstWrong_1 : decode cX1_firstWrong 1 = .ok (.getfield 15, 3) := by decide +kernel
theorem dX1_firstWrong_4 : decode cX1_firstWrong 4 = .ok (.iconst 0, 1) := by decide +kernel
theorem dX1_firstWrong_5 : decode cX1_firstWrong 5 = .ok (.invokestatic 22, 3) := by decide +kernel
theorem dX1_firstWrong_8 : decode cX1_firstWrong 8 = .ok (.iconst 0, 1) := by decide +kernel
theorem dX1_firstWrong_9 : decode cX1_firstWrong 9 = .ok (.istore_n 2, 1) := by decide +kernel
theorem dX1_firstWrong_10 : decode cX1_firstWrong 10 = .ok (.iload_n 2, 1) := by decide +kernel
theorem dX1_firstWrong_11 : decode cX1_firstWrong 11 = .ok (.aload_n 0, 1) := by decide +kernel
theorem dX1_firstWrong_12 : decode cX1_firstWrong 12 = .ok (.getfield 18, 3) := by decide +kernel
theorem dX1_firstWrong_15 : decode cX1_firstWrong 15 = .ok (.if_icmp .ge 54, 3) := by decide +kernel
theorem dX1_firstWrong_18 : decode cX1_firstWrong 18 = .ok (.aload_n 0, 1) := by decide +kernel
theorem dX1_firstWrong_19 : decode cX1_firstWrong 19 = .ok (.getfield 9, 3) := by decide +kernel
theorem dX1_firstWrong_22 : decode cX1_firstWrong 22 = .ok (.iload_n 2, 1) := by decide +kernel
theorem dX1_firstWrong_23 : decode cX1_firstWrong 23 = .ok (.iaload, 1) := by decide +kernel
theorem dX1_firstWrong_24 : decode cX1_firstWrong 24 = .ok (.bipush 97, 2) := by decide +kernel
theorem dX1_firstWrong_26 : decode cX1_firstWrong 26 = .ok (.isub, 1) := by decide +kernel
theorem dX1_firstWrong_27 : decode cX1_firstWrong 27 = .ok (.istore_n 3, 1) := by decide +kernel
theorem dX1_firstWrong_28 : decode cX1_firstWrong 28 = .ok (.aload_n 1, 1) := by decide +kernel
theorem dX1_firstWrong_29 : decode cX1_firstWrong 29 = .ok (.iload_n 3, 1) := by decide +kernel
theorem dX1_firstWrong_30 : decode cX1_firstWrong 30 = .ok (.invokevirtual 28, 3) := by decide +kernel
theorem dX1_firstWrong_33 : decode cX1_firstWrong 33 = .ok (.ifCond .eq 18, 3) := by decide +kernel
theorem dX1_firstWrong_36 : decode cX1_firstWrong 36 = .ok (.aload_n 0, 1) := by decide +kernel
theorem dX1_firstWrong_37 : decode cX1_firstWrong 37 = .ok (.getfield 15, 3) := by decide +kernel
theorem dX1_firstWrong_40 : decode cX1_firstWrong 40 = .ok (.iload_n 3, 1) := by decide +kernel
theorem dX1_firstWrong_41 : decode cX1_firstWrong 41 = .ok (.iaload, 1) := by decide +kernel
theorem dX1_firstWrong_42 : decode cX1_firstWrong 42 = .ok (.aload_n 1, 1) := by decide +kernel
theorem dX1_firstWrong_43 : decode cX1_firstWrong 43 = .ok (.getfield 34, 3) := by decide +kernel
theorem dX1_firstWrong_46 : decode cX1_firstWrong 46 = .ok (.iload_n 3, 1) := by decide +kernel
theorem dX1_firstWrong_47 : decode cX1_firstWrong 47 = .ok (.iaload, 1) := by decide +kernel
theorem dX1_firstWrong_48 : decode cX1_firstWrong 48 = .ok (.if_icmp .lt 5, 3) := by decide +kernel
theorem dX1_firstWrong_51 : decode cX1_firstWrong 51 = .ok (.iload_n 2, 1) := by decide +kernel
theorem dX1_firstWrong_52 : decode cX1_firstWrong 52 = .ok (.ireturn, 1) := by decide +kernel
theorem dX1_firstWrong_53 : decode cX1_firstWrong 53 = .ok (.aload_n 0, 1) := by decide +kernel
theorem dX1_firstWrong_54 : decode cX1_firstWrong 54 = .ok (.getfield 15, 3) := by decide +kernel
theorem dX1_firstWrong_57 : decode cX1_firstWrong 57 = .ok (.iload_n 3, 1) := by decide +kernel
theorem dX1_firstWrong_58 : decode cX1_firstWrong 58 = .ok (.dup2, 1) := by decide +kernel
theorem dX1_firstWrong_59 : decode cX1_firstWrong 59 = .ok (.iaload, 1) := by decide +kernel
theorem dX1_firstWrong_60 : decode cX1_firstWrong 60 = .ok (.iconst 1, 1) := by decide +kernel
theorem dX1_firstWrong_61 : decode cX1_firstWrong 61 = .ok (.iadd, 1) := by decide +kernel
theorem dX1_firstWrong_62 : decode cX1_firstWrong 62 = .ok (.iastore, 1) := by decide +kernel
theorem dX1_firstWrong_63 : decode cX1_firstWrong 63 = .ok (.iinc 2 1, 3) := by decide +kernel
theorem dX1_firstWrong_66 : decode cX1_firstWrong 66 = .ok (.goto (-56), 3) := by decide +kernel
theorem dX1_firstWrong_69 : decode cX1_firstWrong 69 = .ok (.bipush (-6), 2) := by decide +kernel
theorem dX1_firstWrong_71 : decode cX1_firstWrong 71 = .ok (.ireturn, 1) := by decide +kernel
theorem dX1_priceIn_0 : decode cX1_priceIn 0 = .ok (.iconst 0, 1) := by decide +kernel
theorem dX1_priceIn_1 : decode cX1_priceIn 1 = .ok (.istore_n 2, 1) := by decide +kernel
theorem dX1_priceIn_2 : decode cX1_priceIn 2 = .ok (.iconst 0, 1) := by decide +kernel
theorem dX1_priceIn_3 : decode cX1_priceIn 3 = .ok (.istore_n 3, 1) := by decide +kernel
theorem dX1_priceIn_4 : decode cX1_priceIn 4 = .ok (.iload_n 3, 1) := by decide +kernel
theorem dX1_priceIn_5 : decode cX1_priceIn 5 = .ok (.bipush 6, 2) := by decide +kernel
theorem dX1_priceIn_7 : decode cX1_priceIn 7 = .ok (.if_icmp .ge 25, 3) := by decide +kernel
theorem dX1_priceIn_10 : decode cX1_priceIn 10 = .ok (.iload_n 2, 1) := by decide +kernel
theorem dX1_priceIn_11 : decode cX1_priceIn 11 = .ok (.aload_n 0, 1) := by decide +kernel
theorem dX1_priceIn_12 : decode cX1_priceIn 12 = .ok (.getfield 15, 3) := by decide +kernel
theorem dX1_priceIn_15 : decode cX1_priceIn 15 = .ok (.iload_n 3, 1) := by decide +kernel
theorem dX1_priceIn_16 : decode cX1_priceIn 16 = .ok (.iaload, 1) := by decide +kernel
theorem dX1_priceIn_17 : decode cX1_priceIn 17 = .ok (.aload_n 1, 1) := by decide +kernel
theorem dX1_priceIn_18 : decode cX1_priceIn 18 = .ok (.getfield 37, 3) := by decide +kernel
theorem dX1_priceIn_21 : decode cX1_priceIn 21 = .ok (.iload_n 3, 1) := by decide +kernel
theorem dX1_priceIn_22 : decode cX1_priceIn 22 = .ok (.iaload, 1) := by decide +kernel
theorem dX1_priceIn_23 : decode cX1_priceIn 23 = .ok (.imul, 1) := by decide +kernel
theorem dX1_priceIn_24 : decode cX1_priceIn 24 = .ok (.iadd, 1) := by decide +kernel
theorem dX1_priceIn_25 : decode cX1_priceIn 25 = .ok (.istore_n 2, 1) := by decide +kernel
theorem dX1_priceIn_26 : decode cX1_priceIn 26 = .ok (.iinc 3 1, 3) := by decide +kernel
theorem dX1_priceIn_29 : decode cX1_priceIn 29 = .ok (.goto (-25), 3) := by decide +kernel
theorem dX1_priceIn_32 : decode cX1_priceIn 32 = .ok (.iload_n 2, 1) := by decide +kernel
theorem dX1_priceIn_33 : decode cX1_priceIn 33 = .ok (.ireturn, 1) := by decide +kernel
theorem dX1_worthIn_0 : decode cX1_worthIn 0 = .ok (.iconst 0, 1) := by decide +kernel
theorem dX1_worthIn_1 : decode cX1_worthIn 1 = .ok (.istore_n 2, 1) := by decide +kernel
theorem dX1_worthIn_2 : decode cX1_worthIn 2 = .ok (.iconst 0, 1) := by decide +kernel
theorem dX1_worthIn_3 : decode cX1_worthIn 3 = .ok (.istore_n 3, 1) := by decide +kernel
theorem dX1_worthIn_4 : decode cX1_worthIn 4 = .ok (.iload_n 3, 1) := by decide +kernel
theorem dX1_worthIn_5 : decode cX1_worthIn 5 = .ok (.bipush 6, 2) := by decide +kernel
theorem dX1_worthIn_7 : decode cX1_worthIn 7 = .ok (.if_icmp .ge 23, 3) := by decide +kernel
theorem dX1_worthIn_10 : decode cX1_worthIn 10 = .ok (.iload_n 2, 1) := by decide +kernel
theorem dX1_worthIn_11 : decode cX1_worthIn 11 = .ok (.aload_n 1, 1) := by decide +kernel
theorem dX1_worthIn_12 : decode cX1_worthIn 12 = .ok (.iload_n 3, 1) := by decide +kernel
theorem dX1_worthIn_13 : decode cX1_worthIn 13 = .ok (.aload_n 0, 1) := by decide +kernel
theorem dX1_worthIn_14 : decode cX1_worthIn 14 = .ok (.getfield 15, 3) := by decide +kernel
theorem dX1_worthIn_17 : decode cX1_worthIn 17 = .ok (.iload_n 3, 1) := by decide +kernel
theorem dX1_worthIn_18 : decode cX1_worthIn 18 = .ok (.iaload, 1) := by decide +kernel
theorem dX1_worthIn_19 : decode cX1_worthIn 19 = .ok (.invokevirtual 40, 3) := by decide +kernel
theorem dX1_worthIn_22 : decode cX1_worthIn 22 = .ok (.iadd, 1) := by decide +kernel
theorem dX1_worthIn_23 : decode cX1_worthIn 23 = .ok (.istore_n 2, 1) := by decide +kernel
theorem dX1_worthIn_24 : decode cX1_worthIn 24 = .ok (.iinc 3 1, 3) := by decide +kernel
theorem dX1_worthIn_27 : decode cX1_worthIn 27 = .ok (.goto (-23), 3) := by decide +kernel
theorem dX1_worthIn_30 : decode cX1_worthIn 30 = .ok (.iload_n 2, 1) := by decide +kernel
theorem dX1_worthIn_31 : decode cX1_worthIn 31 = .ok (.ireturn, 1) := by decide +kernel
theorem dX2_init_0 : decode cX2_init 0 = .ok (.aload_n 0, 1) := by decide +kernel
theorem dX2_init_1 : decode cX2_init 1 = .ok (.invokespecial 3, 3) := by decide +kernel
theorem dX2_init_4 : decode cX2_init 4 = .ok (.aload_n 0, 1) := by decide +kernel
theorem dX2_init_5 : decode cX2_init 5 = .ok (.bipush 16, 2) := by decide +kernel
theorem dX2_init_7 : decode cX2_init 7 = .ok (.newarray .int, 2) := by decide +kernel
theorem dX2_init_9 : decode cX2_init 9 = .ok (.putfield 11, 3) := by decide +kernel
theorem dX2_init_12 : decode cX2_init 12 = .ok (.aload_n 0, 1) := by decide +kernel
theorem dX2_init_13 : decode cX2_init 13 = .ok (.bipush 16, 2) := by decide +kernel
theorem dX2_init_15 : decode cX2_init 15 = .ok (.newarray .int, 2) := by decide +kernel
theorem dX2_init_17 : decode cX2_init 17 = .ok (.putfield 15, 3) := by decide +kernel
theorem dX2_init_20 : decode cX2_init 20 = .ok (.return_, 1) := by decide +kernel
theorem dX2_settle_0 : decode cX2_settle 0 = .ok (.aload_n 0, 1) := by decide +kernel
theorem dX2_settle_1 : decode cX2_settle 1 = .ok (.iconst 0, 1) := by decide +kernel
theorem dX2_settle_2 : decode cX2_settle 2 = .ok (.putfield 18, 3) := by decide +kernel
theorem dX2_settle_5 : decode cX2_settle 5 = .ok (.iconst 0, 1) := by decide +kernel
theorem dX2_settle_6 : decode cX2_settle 6 = .ok (.istore_n 3, 1) := by decide +kernel
theorem dX2_settle_7 : decode cX2_settle 7 = .ok (.iload_n 3, 1) := by decide +kernel
theorem dX2_settle_8 : decode cX2_settle 8 = .ok (.iconst 4, 1) := by decide +kernel
theorem dX2_settle_9 : decode cX2_settle 9 = .ok (.if_icmp .ge 29, 3) := by decide +kernel
theorem dX2_settle_12 : decode cX2_settle 12 = .ok (.aload_n 1, 1) := by decide +kernel
theorem dX2_settle_13 : decode cX2_settle 13 = .ok (.iload_n 3, 1) := by decide +kernel
theorem dX2_settle_14 : decode cX2_settle 14 = .ok (.invokevirtual 22, 3) := by decide +kernel
theorem dX2_settle_17 : decode cX2_settle 17 = .ok (.ifCond .eq 15, 3) := by decide +kernel
theorem dX2_settle_20 : decode cX2_settle 20 = .ok (.aload_n 0, 1) := by decide +kernel
theorem dX2_settle_21 : decode cX2_settle 21 = .ok (.dup, 1) := by decide +kernel
theorem dX2_settle_22 : decode cX2_settle 22 = .ok (.getfield 18, 3) := by decide +kernel
theorem dX2_settle_25 : decode cX2_settle 25 = .ok (.iconst 1, 1) := by decide +kernel
theorem dX2_settle_26 : decode cX2_settle 26 = .ok (.iload_n 3, 1) := by decide +kernel
theorem dX2_settle_27 : decode cX2_settle 27 = .ok (.ishl, 1) := by decide +kernel
theorem dX2_settle_28 : decode cX2_settle 28 = .ok (.ior, 1) := by decide +kernel
theorem dX2_settle_29 : decode cX2_settle 29 = .ok (.putfield 18, 3) := by decide +kernel
theorem dX2_settle_32 : decode cX2_settle 32 = .ok (.iinc 3 1, 3) := by decide +kernel
theorem dX2_settle_35 : decode cX2_settle 35 = .ok (.goto (-28), 3) := by decide +kernel
theorem dX2_settle_38 : decode cX2_settle 38 = .ok (.iconst 1, 1) := by decide +kernel
theorem dX2_settle_39 : decode cX2_settle 39 = .ok (.istore_n 3, 1) := by decide +kernel
theorem dX2_settle_40 : decode cX2_settle 40 = .ok (.iload_n 3, 1) := by decide +kernel
theorem dX2_settle_41 : decode cX2_settle 41 = .ok (.bipush 16, 2) := by decide +kernel
theorem dX2_settle_43 : decode cX2_settle 43 = .ok (.if_icmp .ge 27, 3) := by decide +kernel
theorem dX2_settle_46 : decode cX2_settle 46 = .ok (.iload_n 3, 1) := by decide +kernel
theorem dX2_settle_47 : decode cX2_settle 47 = .ok (.aload_n 0, 1) := by decide +kernel
theorem dX2_settle_48 : decode cX2_settle 48 = .ok (.getfield 18, 3) := by decide +kernel
theorem dX2_settle_51 : decode cX2_settle 51 = .ok (.iconst (-1), 1) := by decide +kernel
theorem dX2_settle_52 : decode cX2_settle 52 = .ok (.ixor, 1) := by decide +kernel
theorem dX2_settle_53 : decode cX2_settle 53 = .ok (.iand, 1) := by decide +kernel
theorem dX2_settle_54 : decode cX2_settle 54 = .ok (.ifCond .ne 10, 3) := by decide +kernel
theorem dX2_settle_57 : decode cX2_settle 57 = .ok (.aload_n 0, 1) := by decide +kernel
theorem dX2_settle_58 : decode cX2_settle 58 = .ok (.iload_n 3, 1) := by decide +kernel
theorem dX2_settle_59 : decode cX2_settle 59 = .ok (.aload_n 1, 1) := by decide +kernel
theorem dX2_settle_60 : decode cX2_settle 60 = .ok (.aload_n 2, 1) := by decide +kernel
theorem dX2_settle_61 : decode cX2_settle 61 = .ok (.invokevirtual 28, 3) := by decide +kernel
theorem dX2_settle_64 : decode cX2_settle 64 = .ok (.iinc 3 1, 3) := by decide +kernel
theorem dX2_settle_67 : decode cX2_settle 67 = .ok (.goto (-27), 3) := by decide +kernel
theorem dX2_settle_70 : decode cX2_settle 70 = .ok (.return_, 1) := by decide +kernel
theorem dX2_mostWorth_0 : decode cX2_mostWorth 0 = .ok (.aload_n 0, 1) := by decide +kernel
theorem dX2_mostWorth_1 : decode cX2_mostWorth 1 = .ok (.getfield 11, 3) := by decide +kernel
theorem dX2_mostWorth_4 : decode cX2_mostWorth 4 = .ok (.aload_n 0, 1) := by decide +kernel
theorem dX2_mostWorth_5 : decode cX2_mostWorth 5 = .ok (.getfield 18, 3) := by decide +kernel
theorem dX2_mostWorth_8 : decode cX2_mostWorth 8 = .ok (.iaload, 1) := by decide +kernel
theorem dX2_mostWorth_9 : decode cX2_mostWorth 9 = .ok (.ireturn, 1) := by decide +kernel
theorem dX2_leastBeside_0 : decode cX2_leastBeside 0 = .ok (.aload_n 0, 1) := by decide +kernel
theorem dX2_leastBeside_1 : decode cX2_leastBeside 1 = .ok (.getfield 18, 3) := by decide +kernel
theorem dX2_leastBeside_4 : decode cX2_leastBeside 4 = .ok (.istore_n 2, 1) := by decide +kernel
theorem dX2_leastBeside_5 : decode cX2_leastBeside 5 = .ok (.iconst 0, 1) := by decide +kernel
theorem dX2_leastBeside_6 : decode cX2_leastBeside 6 = .ok (.istore_n 3, 1) := by decide +kernel
theorem dX2_leastBeside_7 : decode cX2_leastBeside 7 = .ok (.iload_n 3, 1) := by decide +kernel
theorem dX2_leastBeside_8 : decode cX2_leastBeside 8 = .ok (.iconst 4, 1) := by decide +kernel
theorem dX2_leastBeside_9 : decode cX2_leastBeside 9 = .ok (.if_icmp .ge 39, 3) := by decide +kernel
theorem dX2_leastBeside_12 : decode cX2_leastBeside 12 = .ok (.aload_n 0, 1) := by decide +kernel
theorem dX2_leastBeside_13 : decode cX2_leastBeside 13 = .ok (.getfield 15, 3) := by decide +kernel
theorem dX2_leastBeside_16 : decode cX2_leastBeside 16 = .ok (.iload_n 2, 1) := by decide +kernel
theorem dX2_leastBeside_17 : decode cX2_leastBeside 17 = .ok (.iaload, 1) := by decide +kernel
theorem dX2_leastBeside_18 : decode cX2_leastBeside 18 = .ok (.iload_n 1, 1) := by decide +kernel
theorem dX2_leastBeside_19 : decode cX2_leastBeside 19 = .ok (.ishr, 1) := by decide +kernel
theorem dX2_leastBeside_20 : decode cX2_leastBeside 20 = .ok (.iconst 1, 1) := by decide +kernel
theorem dX2_leastBeside_21 : decode cX2_leastBeside 21 = .ok (.iand, 1) := by decide +kernel
theorem dX2_leastBeside_22 : decode cX2_leastBeside 22 = .ok (.iconst 1, 1) := by decide +kernel
theorem dX2_leastBeside_23 : decode cX2_leastBeside 23 = .ok (.if_icmp .ne 8, 3) := by decide +kernel
theorem dX2_leastBeside_26 : decode cX2_leastBeside 26 = .ok (.iload_n 2, 1) := by decide +kernel
theorem dX2_leastBeside_27 : decode cX2_leastBeside 27 = .ok (.invokestatic 32, 3) := by decide +kernel
theorem dX2_leastBeside_30 : decode cX2_leastBeside 30 = .ok (.ireturn, 1) := by decide +kernel
theorem dX2_leastBeside_31 : decode cX2_leastBeside 31 = .ok (.iload_n 2, 1) := by decide +kernel
theorem dX2_leastBeside_32 : decode cX2_leastBeside 32 = .ok (.aload_n 0, 1) := by decide +kernel
theorem dX2_leastBeside_33 : decode cX2_leastBeside 33 = .ok (.getfield 15, 3) := by decide +kernel
theorem dX2_leastBeside_36 : decode cX2_leastBeside 36 = .ok (.iload_n 2, 1) := by decide +kernel
theorem dX2_leastBeside_37 : decode cX2_leastBeside 37 = .ok (.iaload, 1) := by decide +kernel
theorem dX2_leastBeside_38 : decode cX2_leastBeside 38 = .ok (.iconst (-1), 1) := by decide +kernel
theorem dX2_leastBeside_39 : decode cX2_leastBeside 39 = .ok (.ixor, 1) := by decide +kernel
theorem dX2_leastBeside_40 : decode cX2_leastBeside 40 = .ok (.iand, 1) := by decide +kernel
theorem dX2_leastBeside_41 : decode cX2_leastBeside 41 = .ok (.istore_n 2, 1) := by decide +kernel
theorem dX2_leastBeside_42 : decode cX2_leastBeside 42 = .ok (.iinc 3 1, 3) := by decide +kernel
theorem dX2_leastBeside_45 : decode cX2_leastBeside 45 = .ok (.goto (-38), 3) := by decide +kernel
theorem dX2_leastBeside_48 : decode cX2_leastBeside 48 = .ok (.iload_n 1, 1) := by decide +kernel
theorem dX2_leastBeside_49 : decode cX2_leastBeside 49 = .ok (.ireturn, 1) := by decide +kernel
theorem dX2_settleSet_0 : decode cX2_settleSet 0 = .ok (.aload_n 0, 1) := by decide +kernel
theorem dX2_settleSet_1 : decode cX2_settleSet 1 = .ok (.getfield 11, 3) := by decide +kernel
theorem dX2_settleSet_4 : decode cX2_settleSet 4 = .ok (.iload_n 1, 1) := by decide +kernel
theorem dX2_settleSet_5 : decode cX2_settleSet 5 = .ok (.iconst (-1), 1) := by decide +kernel
theorem dX2_settleSet_6 : decode cX2_settleSet 6 = .ok (.iastore, 1) := by decide +kernel
theorem dX2_settleSet_7 : decode cX2_settleSet 7 = .ok (.iload_n 1, 1) := by decide +kernel
theorem dX2_settleSet_8 : decode cX2_settleSet 8 = .ok (.invokestatic 32, 3) := by decide +kernel
theorem dX2_settleSet_11 : decode cX2_settleSet 11 = .ok (.istore 4, 2) := by decide +kernel
theorem dX2_settleSet_13 : decode cX2_settleSet 13 = .ok (.iconst 1, 1) := by decide +kernel
theorem dX2_settleSet_14 : decode cX2_settleSet 14 = .ok (.istore 5, 2) := by decide +kernel
theorem dX2_settleSet_16 : decode cX2_settleSet 16 = .ok (.iload 5, 2) := by decide +kernel
theorem dX2_settleSet_18 : decode cX2_settleSet 18 = .ok (.iload_n 1, 1) := by decide +kernel
theorem dX2_settleSet_19 : decode cX2_settleSet 19 = .ok (.if_icmp .gt 87, 3) := by decide +kernel
theorem dX2_settleSet_22 : decode cX2_settleSet 22 = .ok (.iload 5, 2) := by decide +kernel
theorem dX2_settleSet_24 : decode cX2_settleSet 24 = .ok (.iload_n 1, 1) := by decide +kernel
theorem dX2_settleSet_25 : decode cX2_settleSet 25 = .ok (.iconst (-1), 1) := by decide +kernel
theorem dX2_settleSet_26 : decode cX2_settleSet 26 = .ok (.ixor, 1) := by decide +kernel
theorem dX2_settleSet_27 : decode cX2_settleSet 27 = .ok (.iand, 1) := by decide +kernel
theorem dX2_settleSet_28 : decode cX2_settleSet 28 = .ok (.ifCond .ne 72, 3) := by decide +kernel
theorem dX2_settleSet_31 : decode cX2_settleSet 31 = .ok (.iload 5, 2) := by decide +kernel
theorem dX2_settleSet_33 : decode cX2_settleSet 33 = .ok (.iload 4, 2) := by decide +kernel
theorem dX2_settleSet_35 : decode cX2_settleSet 35 = .ok (.ishr, 1) := by decide +kernel
theorem dX2_settleSet_36 : decode cX2_settleSet 36 = .ok (.iconst 1, 1) := by decide +kernel
theorem dX2_settleSet_37 : decode cX2_settleSet 37 = .ok (.iand, 1) := by decide +kernel
theorem dX2_settleSet_38 : decode cX2_settleSet 38 = .ok (.iconst 1, 1) := by decide +kernel
theorem dX2_settleSet_39 : decode cX2_settleSet 39 = .ok (.if_icmp .ne 61, 3) := by decide +kernel
theorem dX2_settleSet_42 : decode cX2_settleSet 42 = .ok (.iload 5, 2) := by decide +kernel
theorem dX2_settleSet_44 : decode cX2_settleSet 44 = .ok (.aload_n 2, 1) := by decide +kernel
theorem dX2_settleSet_45 : decode cX2_settleSet 45 = .ok (.aload_n 3, 1) := by decide +kernel
theorem dX2_settleSet_46 : decode cX2_settleSet 46 = .ok (.invokestatic 36, 3) := by decide +kernel
theorem dX2_settleSet_49 : decode cX2_settleSet 49 = .ok (.istore 6, 2) := by decide +kernel
theorem dX2_settleSet_51 : decode cX2_settleSet 51 = .ok (.iload 6, 2) := by decide +kernel
theorem dX2_settleSet_53 : decode cX2_settleSet 53 = .ok (.aload_n 0, 1) := by decide +kernel
theorem dX2_settleSet_54 : decode cX2_settleSet 54 = .ok (.getfield 11, 3) := by decide +kernel
theorem dX2_settleSet_57 : decode cX2_settleSet 57 = .ok (.iload_n 1, 1) := by decide +kernel
theorem dX2_settleSet_58 : decode cX2_settleSet 58 = .ok (.iload 5, 2) := by decide +kernel
theorem dX2_settleSet_60 : decode cX2_settleSet 60 = .ok (.iconst (-1), 1) := by decide +kernel
theorem dX2_settleSet_61 : decode cX2_settleSet 61 = .ok (.ixor, 1) := by decide +kernel
theorem dX2_settleSet_62 : decode cX2_settleSet 62 = .ok (.iand, 1) := by decide +kernel
theorem dX2_settleSet_63 : decode cX2_settleSet 63 = .ok (.iaload, 1) := by decide +kernel
theorem dX2_settleSet_64 : decode cX2_settleSet 64 = .ok (.iadd, 1) := by decide +kernel
theorem dX2_settleSet_65 : decode cX2_settleSet 65 = .ok (.istore 7, 2) := by decide +kernel
theorem dX2_settleSet_67 : decode cX2_settleSet 67 = .ok (.iload 6, 2) := by decide +kernel
theorem dX2_settleSet_69 : decode cX2_settleSet 69 = .ok (.iconst (-1), 1) := by decide +kernel
theorem dX2_settleSet_70 : decode cX2_settleSet 70 = .ok (.if_icmp .eq 30, 3) := by decide +kernel
theorem dX2_settleSet_73 : decode cX2_settleSet 73 = .ok (.iload 7, 2) := by decide +kernel
theorem dX2_settleSet_75 : decode cX2_settleSet 75 = .ok (.aload_n 0, 1) := by decide +kernel
theorem dX2_settleSet_76 : decode cX2_settleSet 76 = .ok (.getfield 11, 3) := by decide +kernel
theorem dX2_settleSet_79 : decode cX2_settleSet 79 = .ok (.iload_n 1, 1) := by decide +kernel
theorem dX2_settleSet_80 : decode cX2_settleSet 80 = .ok (.iaload, 1) := by decide +kernel
theorem dX2_settleSet_81 : decode cX2_settleSet 81 = .ok (.if_icmp .le 19, 3) := by decide +kernel
theorem dX2_settleSet_84 : decode cX2_settleSet 84 = .ok (.aload_n 0, 1) := by decide +kernel
theorem dX2_settleSet_85 : decode cX2_settleSet 85 = .ok (.getfield 11, 3) := by decide +kernel
theorem dX2_settleSet_88 : decode cX2_settleSet 88 = .ok (.iload_n 1, 1) := by decide +kernel
theorem dX2_settleSet_89 : decode cX2_settleSet 89 = .ok (.iload 7, 2) := by decide +kernel
theorem dX2_settleSet_91 : decode cX2_settleSet 91 = .ok (.iastore, 1) := by decide +kernel
theorem dX2_settleSet_92 : decode cX2_settleSet 92 = .ok (.aload_n 0, 1) := by decide +kernel
theorem dX2_settleSet_93 : decode cX2_settleSet 93 = .ok (.getfield 15, 3) := by decide +kernel
theorem dX2_settleSet_96 : decode cX2_settleSet 96 = .ok (.iload_n 1, 1) := by decide +kernel
theorem dX2_settleSet_97 : decode cX2_settleSet 97 = .ok (.iload 5, 2) := by decide +kernel
theorem dX2_settleSet_99 : decode cX2_settleSet 99 = .ok (.iastore, 1) := by decide +kernel
theorem dX2_settleSet_100 : decode cX2_settleSet 100 = .ok (.iinc 5 1, 3) := by decide +kernel
theorem dX2_settleSet_103 : decode cX2_settleSet 103 = .ok (.goto (-87), 3) := by decide +kernel
theorem dX2_settleSet_106 : decode cX2_settleSet 106 = .ok (.return_, 1) := by decide +kernel
theorem dX2_groupWorth_0 : decode cX2_groupWorth 0 = .ok (.iconst 0, 1) := by decide +kernel
theorem dX2_groupWorth_1 : decode cX2_groupWorth 1 = .ok (.istore_n 3, 1) := by decide +kernel
theorem dX2_groupWorth_2 : decode cX2_groupWorth 2 = .ok (.iconst 0, 1) := by decide +kernel
theorem dX2_groupWorth_3 : decode cX2_groupWorth 3 = .ok (.istore 4, 2) := by decide +kernel
theorem dX2_groupWorth_5 : decode cX2_groupWorth 5 = .ok (.iconst 0, 1) := by decide +kernel
theorem dX2_groupWorth_6 : decode cX2_groupWorth 6 = .ok (.istore 5, 2) := by decide +kernel
theorem dX2_groupWorth_8 : decode cX2_groupWorth 8 = .ok (.iload 5, 2) := by decide +kernel
theorem dX2_groupWorth_10 : decode cX2_groupWorth 10 = .ok (.iconst 4, 1) := by decide +kernel
theorem dX2_groupWorth_11 : decode cX2_groupWorth 11 = .ok (.if_icmp .ge 32, 3) := by decide +kernel
theorem dX2_groupWorth_14 : decode cX2_groupWorth 14 = .ok (.iload_n 0, 1) := by decide +kernel
theorem dX2_groupWorth_15 : decode cX2_groupWorth 15 = .ok (.iload 5, 2) := by decide +kernel
theorem dX2_groupWorth_17 : decode cX2_groupWorth 17 = .ok (.ishr, 1) := by decide +kernel
theorem dX2_groupWorth_18 : decode cX2_groupWorth 18 = .ok (.iconst 1, 1) := by decide +kernel
theorem dX2_groupWorth_19 : decode cX2_groupWorth 19 = .ok (.iand, 1) := by decide +kernel
theorem dX2_groupWorth_20 : decode cX2_groupWorth 20 = .ok (.iconst 1, 1) := by decide +kernel
theorem dX2_groupWorth_21 : decode cX2_groupWorth 21 = .ok (.if_icmp .ne 16, 3) := by decide +kernel
theorem dX2_groupWorth_24 : decode cX2_groupWorth 24 = .ok (.iload_n 3, 1) := by decide +kernel
theorem dX2_groupWorth_25 : decode cX2_groupWorth 25 = .ok (.aload_n 1, 1) := by decide +kernel
theorem dX2_groupWorth_26 : decode cX2_groupWorth 26 = .ok (.getfield 40, 3) := by decide +kernel
theorem dX2_groupWorth_29 : decode cX2_groupWorth 29 = .ok (.iload 5, 2) := by decide +kernel
theorem dX2_groupWorth_31 : decode cX2_groupWorth 31 = .ok (.iaload, 1) := by decide +kernel
theorem dX2_groupWorth_32 : decode cX2_groupWorth 32 = .ok (.iadd, 1) := by decide +kernel
theorem dX2_groupWorth_33 : decode cX2_groupWorth 33 = .ok (.istore_n 3, 1) := by decide +kernel
theorem dX2_groupWorth_34 : decode cX2_groupWorth 34 = .ok (.iinc 4 1, 3) := by decide +kernel
theorem dX2_groupWorth_37 : decode cX2_groupWorth 37 = .ok (.iinc 5 1, 3) := by decide +kernel
theorem dX2_groupWorth_40 : decode cX2_groupWorth 40 = .ok (.goto (-32), 3) := by decide +kernel
theorem dX2_groupWorth_43 : decode cX2_groupWorth 43 = .ok (.iload 4, 2) := by decide +kernel
theorem dX2_groupWorth_45 : decode cX2_groupWorth 45 = .ok (.iconst 1, 1) := by decide +kernel
theorem dX2_groupWorth_46 : decode cX2_groupWorth 46 = .ok (.if_icmp .le 13, 3) := by decide +kernel
theorem dX2_groupWorth_49 : decode cX2_groupWorth 49 = .ok (.aload_n 2, 1) := by decide +kernel
theorem dX2_groupWorth_50 : decode cX2_groupWorth 50 = .ok (.iload_n 3, 1) := by decide +kernel
theorem dX2_groupWorth_51 : decode cX2_groupWorth 51 = .ok (.invokevirtual 43, 3) := by decide +kernel
theorem dX2_groupWorth_54 : decode cX2_groupWorth 54 = .ok (.ifCond .ne 5, 3) := by decide +kernel
theorem dX2_groupWorth_57 : decode cX2_groupWorth 57 = .ok (.iconst (-1), 1) := by decide +kernel
theorem dX2_groupWorth_58 : decode cX2_groupWorth 58 = .ok (.ireturn, 1) := by decide +kernel
theorem dX2_groupWorth_59 : decode cX2_groupWorth 59 = .ok (.aload_n 2, 1) := by decide +kernel
theorem dX2_groupWorth_60 : decode cX2_groupWorth 60 = .ok (.iload_n 3, 1) := by decide +kernel
theorem dX2_groupWorth_61 : decode cX2_groupWorth 61 = .ok (.invokevirtual 48, 3) := by decide +kernel
theorem dX2_groupWorth_64 : decode cX2_groupWorth 64 = .ok (.ireturn, 1) := by decide +kernel
theorem dX2_leastIn_0 : decode cX2_leastIn 0 = .ok (.iconst 0, 1) := by decide +kernel
theorem dX2_leastIn_1 : decode cX2_leastIn 1 = .ok (.istore_n 1, 1) := by decide +kernel
theorem dX2_leastIn_2 : decode cX2_leastIn 2 = .ok (.iload_n 1, 1) := by decide +kernel
theorem dX2_leastIn_3 : decode cX2_leastIn 3 = .ok (.iconst 3, 1) := by decide +kernel
theorem dX2_leastIn_4 : decode cX2_leastIn 4 = .ok (.if_icmp .ge 17, 3) := by decide +kernel
theorem dX2_leastIn_7 : decode cX2_leastIn 7 = .ok (.iload_n 0, 1) := by decide +kernel
theorem dX2_leastIn_8 : decode cX2_leastIn 8 = .ok (.iload_n 1, 1) := by decide +kernel
theorem dX2_leastIn_9 : decode cX2_leastIn 9 = .ok (.ishr, 1) := by decide +kernel
theorem dX2_leastIn_10 : decode cX2_leastIn 10 = .ok (.iconst 1, 1) := by decide +kernel
theorem dX2_leastIn_11 : decode cX2_leastIn 11 = .ok (.iand, 1) := by decide +kernel
theorem dX2_leastIn_12 : decode cX2_leastIn 12 = .ok (.ifCond .ne 9, 3) := by decide +kernel
theorem dX2_leastIn_15 : decode cX2_leastIn 15 = .ok (.iinc 1 1, 3) := by decide +kernel
theorem dX2_leastIn_18 : decode cX2_leastIn 18 = .ok (.goto (-16), 3) := by decide +kernel
theorem dX2_leastIn_21 : decode cX2_leastIn 21 = .ok (.iload_n 1, 1) := by decide +kernel
theorem dX2_leastIn_22 : decode cX2_leastIn 22 = .ok (.ireturn, 1) := by decide +kernel
theorem dX3_init_0 : decode cX3_init 0 = .ok (.aload_n 0, 1) := by decide +kernel
theorem dX3_init_1 : decode cX3_init 1 = .ok (.invokespecial 5, 3) := by decide +kernel
theorem dX3_init_4 : decode cX3_init 4 = .ok (.aload_n 0, 1) := by decide +kernel
theorem dX3_init_5 : decode cX3_init 5 = .ok (.sipush 1000, 3) := by decide +kernel
theorem dX3_init_8 : decode cX3_init 8 = .ok (.newarray .long, 2) := by decide +kernel
theorem dX3_init_10 : decode cX3_init 10 = .ok (.putfield 11, 3) := by decide +kernel
theorem dX3_init_13 : decode cX3_init 13 = .ok (.aload_n 0, 1) := by decide +kernel
theorem dX3_init_14 : decode cX3_init 14 = .ok (.bipush 10, 2) := by decide +kernel
theorem dX3_init_16 : decode cX3_init 16 = .ok (.newarray .long, 2) := by decide +kernel
theorem dX3_init_18 : decode cX3_init 18 = .ok (.putfield 15, 3) := by decide +kernel
theorem dX3_init_21 : decode cX3_init 21 = .ok (.aload_n 0, 1) := by decide +kernel
theorem dX3_init_22 : decode cX3_init 22 = .ok (.iconst (-1), 1) := by decide +kernel
theorem dX3_init_23 : decode cX3_init 23 = .ok (.putfield 18, 3) := by decide +kernel
theorem dX3_init_26 : decode cX3_init 26 = .ok (.return_, 1) := by decide +kernel
theorem dX3_empty_0 : decode cX3_empty 0 = .ok (.aload_n 0, 1) := by decide +kernel
theorem dX3_empty_1 : decode cX3_empty 1 = .ok (.iconst (-1), 1) := by decide +kernel
theorem dX3_empty_2 : decode cX3_empty 2 = .ok (.putfield 18, 3) := by decide +kernel
theorem dX3_empty_5 : decode cX3_empty 5 = .ok (.return_, 1) := by decide +kernel
theorem dX3_fill_0 : decode cX3_fill 0 = .ok (.aload_n 0, 1) := by decide +kernel
theorem dX3_fill_1 : decode cX3_fill 1 = .ok (.getfield 18, 3) := by decide +kernel
theorem dX3_fill_4 : decode cX3_fill 4 = .ok (.iload_n 2, 1) := by decide +kernel
theorem dX3_fill_5 : decode cX3_fill 5 = .ok (.if_icmp .ne 4, 3) := by decide +kernel
theorem dX3_fill_8 : decode cX3_fill 8 = .ok (.return_, 1) := by decide +kernel
theorem dX3_fill_9 : decode cX3_fill 9 = .ok (.aload_n 0, 1) := by decide +kernel
theorem dX3_fill_10 : decode cX3_fill 10 = .ok (.getfield 11, 3) := by decide +kernel
theorem dX3_fill_13 : decode cX3_fill 13 = .ok (.ldc2_w 22, 3) := by decide +kernel
theorem dX3_fill_16 : decode cX3_fill 16 = .ok (.invokestatic 24, 3) := by decide +kernel
theorem dX3_fill_19 : decode cX3_fill 19 = .ok (.aload_n 0, 1) := by decide +kernel
theorem dX3_fill_20 : decode cX3_fill 20 = .ok (.getfield 11, 3) := by decide +kernel
theorem dX3_fill_23 : decode cX3_fill 23 = .ok (.iconst 0, 1) := by decide +kernel
theorem dX3_fill_24 : decode cX3_fill 24 = .ok (.lconst 0, 1) := by decide +kernel
theorem dX3_fill_25 : decode cX3_fill 25 = .ok (.lastore, 1) := by decide +kernel
theorem dX3_fill_26 : decode cX3_fill 26 = .ok (.aload_n 0, 1) := by decide +kernel
theorem dX3_fill_27 : decode cX3_fill 27 = .ok (.iconst 0, 1) := by decide +kernel
theorem dX3_fill_28 : decode cX3_fill 28 = .ok (.putfield 30, 3) := by decide +kernel
theorem dX3_fill_31 : decode cX3_fill 31 = .ok (.iconst 0, 1) := by decide +kernel
theorem dX3_fill_32 : decode cX3_fill 32 = .ok (.istore_n 3, 1) := by decide +kernel
theorem dX3_fill_33 : decode cX3_fill 33 = .ok (.iload_n 3, 1) := by decide +kernel
theorem dX3_fill_34 : decode cX3_fill 34 = .ok (.bipush 6, 2) := by decide +kernel
theorem dX3_fill_36 : decode cX3_fill 36 = .ok (.if_icmp .ge 48, 3) := by decide +kernel
theorem dX3_fill_39 : decode cX3_fill 39 = .ok (.iload_n 2, 1) := by decide +kernel
theorem dX3_fill_40 : decode cX3_fill 40 = .ok (.iload_n 3, 1) := by decide +kernel
theorem dX3_fill_41 : decode cX3_fill 41 = .ok (.ishr, 1) := by decide +kernel
theorem dX3_fill_42 : decode cX3_fill 42 = .ok (.iconst 1, 1) := by decide +kernel
theorem dX3_fill_43 : decode cX3_fill 43 = .ok (.iand, 1) := by decide +kernel
theorem dX3_fill_44 : decode cX3_fill 44 = .ok (.iconst 1, 1) := by decide +kernel
theorem dX3_fill_45 : decode cX3_fill 45 = .ok (.if_icmp .ne 33, 3) := by decide +kernel
theorem dX3_fill_48 : decode cX3_fill 48 = .ok (.aload_n 1, 1) := by decide +kernel
theorem dX3_fill_49 : decode cX3_fill 49 = .ok (.iload_n 3, 1) := by decide +kernel
theorem dX3_fill_50 : decode cX3_fill 50 = .ok (.invokevirtual 33, 3) := by decide +kernel
theorem dX3_fill_53 : decode cX3_fill 53 = .ok (.ifCond .eq 25, 3) := by decide +kernel
theorem dX3_fill_56 : decode cX3_fill 56 = .ok (.aload_n 0, 1) := by decide +kernel
theorem dX3_fill_57 : decode cX3_fill 57 = .ok (.aload_n 1, 1) := by decide +kernel
theorem dX3_fill_58 : decode cX3_fill 58 = .ok (.iload_n 3, 1) := by decide +kernel
theorem dX3_fill_59 : decode cX3_fill 59 = .ok (.invokevirtual 39, 3) := by decide +kernel
theorem dX3_fill_62 : decode cX3_fill 62 = .ok (.aload_n 0, 1) := by decide +kernel
theorem dX3_fill_63 : decode cX3_fill 63 = .ok (.aload_n 1, 1) := by decide +kernel
theorem dX3_fill_64 : decode cX3_fill 64 = .ok (.getfield 43, 3) := by decide +kernel
theorem dX3_fill_67 : decode cX3_fill 67 = .ok (.iload_n 3, 1) := by decide +kernel
theorem dX3_fill_68 : decode cX3_fill 68 = .ok (.iaload, 1) := by decide +kernel
theorem dX3_fill_69 : decode cX3_fill 69 = .ok (.aload_n 1, 1) := by decide +kernel
theorem dX3_fill_70 : decode cX3_fill 70 = .ok (.getfield 47, 3) := by decide +kernel
theorem dX3_fill_73 : decode cX3_fill 73 = .ok (.iload_n 3, 1) := by decide +kernel
theorem dX3_fill_74 : decode cX3_fill 74 = .ok (.iaload, 1) := by decide +kernel
theorem dX3_fill_75 : decode cX3_fill 75 = .ok (.invokevirtual 50, 3) := by decide +kernel
theorem dX3_fill_78 : decode cX3_fill 78 = .ok (.iinc 3 1, 3) := by decide +kernel
theorem dX3_fill_81 : decode cX3_fill 81 = .ok (.goto (-48), 3) := by decide +kernel
theorem dX3_fill_84 : decode cX3_fill 84 = .ok (.aload_n 0, 1) := by decide +kernel
theorem dX3_fill_85 : decode cX3_fill 85 = .ok (.iload_n 2, 1) := by decide +kernel
theorem dX3_fill_86 : decode cX3_fill 86 = .ok (.putfield 18, 3) := by decide +kernel
theorem dX3_fill_89 : decode cX3_fill 89 = .ok (.return_, 1) := by decide +kernel
theorem dX3_weigh_0 : decode cX3_weigh 0 = .ok (.lconst 1, 1) := by decide +kernel
theorem dX3_weigh_1 : decode cX3_weigh 1 = .ok (.lstore_n 3, 1) := by decide +kernel
theorem dX3_weigh_2 : decode cX3_weigh 2 = .ok (.iload_n 2, 1) := by decide +kernel
theorem dX3_weigh_3 : decode cX3_weigh 3 = .ok (.iconst 1, 1) := by decide +kernel
theorem dX3_weigh_4 : decode cX3_weigh 4 = .ok (.iadd, 1) := by decide +kernel
theorem dX3_weigh_5 : decode cX3_weigh 5 = .ok (.istore 5, 2) := by decide +kernel
theorem dX3_weigh_7 : decode cX3_weigh 7 = .ok (.iload 5, 2) := by decide +kernel
theorem dX3_weigh_9 : decode cX3_weigh 9 = .ok (.bipush 6, 2) := by decide +kernel
theorem dX3_weigh_11 : decode cX3_weigh 11 = .ok (.if_icmp .ge 15, 3) := by decide +kernel
theorem dX3_weigh_14 : decode cX3_weigh 14 = .ok (.lload_n 3, 1) := by decide +kernel
theorem dX3_weigh_15 : decode cX3_weigh 15 = .ok (.ldc2_w 54, 3) := by decide +kernel
theorem dX3_weigh_18 : decode cX3_weigh 18 = .ok (.lmul, 1) := by decide +kernel
theorem dX3_weigh_19 : decode cX3_weigh 19 = .ok (.lstore_n 3, 1) := by decide +kernel
theorem dX3_weigh_20 : decode cX3_weigh 20 = .ok (.iinc 5 1, 3) := by decide +kernel
theorem dX3_weigh_23 : decode cX3_weigh 23 = .ok (.goto (-16), 3) := by decide +kernel
theorem dX3_weigh_26 : decode cX3_weigh 26 = .ok (.iconst 0, 1) := by decide +kernel
theorem dX3_weigh_27 : decode cX3_weigh 27 = .ok (.istore 5, 2) := by decide +kernel
theorem dX3_weigh_29 : decode cX3_weigh 29 = .ok (.iload 5, 2) := by decide +kernel
theorem dX3_weigh_31 : decode cX3_weigh 31 = .ok (.aload_n 0, 1) := by decide +kernel
theorem dX3_weigh_32 : decode cX3_weigh 32 = .ok (.getfield 15, 3) := by decide +kernel
theorem dX3_weigh_35 : decode cX3_weigh 35 = .ok (.arraylength, 1) := by decide +kernel
theorem dX3_weigh_36 : decode cX3_weigh 36 = .ok (.if_icmp .ge 34, 3) := by decide +kernel
theorem dX3_weigh_39 : decode cX3_weigh 39 = .ok (.aload_n 0, 1) := by decide +kernel
theorem dX3_weigh_40 : decode cX3_weigh 40 = .ok (.getfield 15, 3) := by decide +kernel
theorem dX3_weigh_43 : decode cX3_weigh 43 = .ok (.iload 5, 2) := by decide +kernel
theorem dX3_weigh_45 : decode cX3_weigh 45 = .ok (.aload_n 1, 1) := by decide +kernel
theorem dX3_weigh_46 : decode cX3_weigh 46 = .ok (.iload_n 2, 1) := by decide +kernel
theorem dX3_weigh_47 : decode cX3_weigh 47 = .ok (.iload 5, 2) := by decide +kernel
theorem dX3_weigh_49 : decode cX3_weigh 49 = .ok (.invokevirtual 56, 3) := by decide +kernel
theorem dX3_weigh_52 : decode cX3_weigh 52 = .ok (.i2l, 1) := by decide +kernel
theorem dX3_weigh_53 : decode cX3_weigh 53 = .ok (.ldc2_w 60, 3) := by decide +kernel
theorem dX3_weigh_56 : decode cX3_weigh 56 = .ok (.lmul, 1) := by decide +kernel
theorem dX3_weigh_57 : decode cX3_weigh 57 = .ok (.iload 5, 2) := by decide +kernel
theorem dX3_weigh_59 : decode cX3_weigh 59 = .ok (.i2l, 1) := by decide +kernel
theorem dX3_weigh_60 : decode cX3_weigh 60 = .ok (.lload_n 3, 1) := by decide +kernel
theorem dX3_weigh_61 : decode cX3_weigh 61 = .ok (.lmul, 1) := by decide +kernel
theorem dX3_weigh_62 : decode cX3_weigh 62 = .ok (.lsub, 1) := by decide +kernel
theorem dX3_weigh_63 : decode cX3_weigh 63 = .ok (.lastore, 1) := by decide +kernel
theorem dX3_weigh_64 : decode cX3_weigh 64 = .ok (.iinc 5 1, 3) := by decide +kernel
theorem dX3_weigh_67 : decode cX3_weigh 67 = .ok (.goto (-38), 3) := by decide +kernel
theorem dX3_weigh_70 : decode cX3_weigh 70 = .ok (.return_, 1) := by decide +kernel
theorem dX3_countBeside_0 : decode cX3_countBeside 0 = .ok (.ldc2_w 22, 3) := by decide +kernel
theorem dX3_countBeside_3 : decode cX3_countBeside 3 = .ok (.lstore 4, 2) := by decide +kernel
theorem dX3_countBeside_5 : decode cX3_countBeside 5 = .ok (.iconst 0, 1) := by decide +kernel
theorem dX3_countBeside_6 : decode cX3_countBeside 6 = .ok (.istore 6, 2) := by decide +kernel
theorem dX3_countBeside_8 : decode cX3_countBeside 8 = .ok (.iload_n 1, 1) := by decide +kernel
theorem dX3_countBeside_9 : decode cX3_countBeside 9 = .ok (.istore 7, 2) := by decide +kernel
theorem dX3_countBeside_11 : decode cX3_countBeside 11 = .ok (.iconst 0, 1) := by decide +kernel
theorem dX3_countBeside_12 : decode cX3_countBeside 12 = .ok (.istore 8, 2) := by decide +kernel
theorem dX3_countBeside_14 : decode cX3_countBeside 14 = .ok (.iload 8, 2) := by decide +kernel
theorem dX3_countBeside_16 : decode cX3_countBeside 16 = .ok (.iload_n 3, 1) := by decide +kernel
theorem dX3_countBeside_17 : decode cX3_countBeside 17 = .ok (.if_icmp .gt 76, 3) := by decide +kernel
theorem dX3_countBeside_20 : decode cX3_countBeside 20 = .ok (.iload 8, 2) := by decide +kernel
theorem dX3_countBeside_22 : decode cX3_countBeside 22 = .ok (.aload_n 0, 1) := by decide +kernel
theorem dX3_countBeside_23 : decode cX3_countBeside 23 = .ok (.getfield 15, 3) := by decide +kernel
theorem dX3_countBeside_26 : decode cX3_countBeside 26 = .ok (.arraylength, 1) := by decide +kernel
theorem dX3_countBeside_27 : decode cX3_countBeside 27 = .ok (.if_icmp .ge 66, 3) := by decide +kernel
theorem dX3_countBeside_30 : decode cX3_countBeside 30 = .ok (.aload_n 0, 1) := by decide +kernel
theorem dX3_countBeside_31 : decode cX3_countBeside 31 = .ok (.iload 7, 2) := by decide +kernel
theorem dX3_countBeside_33 : decode cX3_countBeside 33 = .ok (.invokevirtual 62, 3) := by decide +kernel
theorem dX3_countBeside_36 : decode cX3_countBeside 36 = .ok (.ifCond .eq 45, 3) := by decide +kernel
theorem dX3_countBeside_39 : decode cX3_countBeside 39 = .ok (.aload_n 0, 1) := by decide +kernel
theorem dX3_countBeside_40 : decode cX3_countBeside 40 = .ok (.getfield 11, 3) := by decide +kernel
theorem dX3_countBeside_43 : decode cX3_countBeside 43 = .ok (.iload 7, 2) := by decide +kernel
theorem dX3_countBeside_45 : decode cX3_countBeside 45 = .ok (.laload, 1) := by decide +kernel
theorem dX3_countBeside_46 : decode cX3_countBeside 46 = .ok (.aload_n 0, 1) := by decide +kernel
theorem dX3_countBeside_47 : decode cX3_countBeside 47 = .ok (.getfield 15, 3) := by decide +kernel
theorem dX3_countBeside_50 : decode cX3_countBeside 50 = .ok (.iload 8, 2) := by decide +kernel
theorem dX3_countBeside_52 : decode cX3_countBeside 52 = .ok (.laload, 1) := by decide +kernel
theorem dX3_countBeside_53 : decode cX3_countBeside 53 = .ok (.ladd, 1) := by decide +kernel
theorem dX3_countBeside_54 : decode cX3_countBeside 54 = .ok (.lload 4, 2) := by decide +kernel
theorem dX3_countBeside_56 : decode cX3_countBeside 56 = .ok (.lcmp, 1) := by decide +kernel
theorem dX3_countBeside_57 : decode cX3_countBeside 57 = .ok (.ifCond .le 24, 3) := by decide +kernel
theorem dX3_countBeside_60 : decode cX3_countBeside 60 = .ok (.aload_n 0, 1) := by decide +kernel
theorem dX3_countBeside_61 : decode cX3_countBeside 61 = .ok (.getfield 11, 3) := by decide +kernel
theorem dX3_countBeside_64 : decode cX3_countBeside 64 = .ok (.iload 7, 2) := by decide +kernel
theorem dX3_countBeside_66 : decode cX3_countBeside 66 = .ok (.laload, 1) := by decide +kernel
theorem dX3_countBeside_67 : decode cX3_countBeside 67 = .ok (.aload_n 0, 1) := by decide +kernel
theorem dX3_countBeside_68 : decode cX3_countBeside 68 = .ok (.getfield 15, 3) := by decide +kernel
theorem dX3_countBeside_71 : decode cX3_countBeside 71 = .ok (.iload 8, 2) := by decide +kernel
theorem dX3_countBeside_73 : decode cX3_countBeside 73 = .ok (.laload, 1) := by decide +kernel
theorem dX3_countBeside_74 : decode cX3_countBeside 74 = .ok (.ladd, 1) := by decide +kernel
theorem dX3_countBeside_75 : decode cX3_countBeside 75 = .ok (.lstore 4, 2) := by decide +kernel
theorem dX3_countBeside_77 : decode cX3_countBeside 77 = .ok (.iload 8, 2) := by decide +kernel
theorem dX3_countBeside_79 : decode cX3_countBeside 79 = .ok (.istore 6, 2) := by decide +kernel
theorem dX3_countBeside_81 : decode cX3_countBeside 81 = .ok (.iload 7, 2) := by decide +kernel
theorem dX3_countBeside_83 : decode cX3_countBeside 83 = .ok (.iload_n 2, 1) := by decide +kernel
theorem dX3_countBeside_84 : decode cX3_countBeside 84 = .ok (.isub, 1) := by decide +kernel
theorem dX3_countBeside_85 : decode cX3_countBeside 85 = .ok (.istore 7, 2) := by decide +kernel
theorem dX3_countBeside_87 : decode cX3_countBeside 87 = .ok (.iinc 8 1, 3) := by decide +kernel
theorem dX3_countBeside_90 : decode cX3_countBeside 90 = .ok (.goto (-76), 3) := by decide +kernel
theorem dX3_countBeside_93 : decode cX3_countBeside 93 = .ok (.iload 6, 2) := by decide +kernel
theorem dX3_countBeside_95 : decode cX3_countBeside 95 = .ok (.ireturn, 1) := by decide +kernel
theorem dX3_comesOut_0 : decode cX3_comesOut 0 = .ok (.iload_n 1, 1) := by decide +kernel
theorem dX3_comesOut_1 : decode cX3_comesOut 1 = .ok (.ifCond .lt 29, 3) := by decide +kernel
theorem dX3_comesOut_4 : decode cX3_comesOut 4 = .ok (.iload_n 1, 1) := by decide +kernel
theorem dX3_comesOut_5 : decode cX3_comesOut 5 = .ok (.aload_n 0, 1) := by decide +kernel
theorem dX3_comesOut_6 : decode cX3_comesOut 6 = .ok (.getfield 11, 3) := by decide +kernel
theorem dX3_comesOut_9 : decode cX3_comesOut 9 = .ok (.arraylength, 1) := by decide +kernel
theorem dX3_comesOut_10 : decode cX3_comesOut 10 = .ok (.if_icmp .ge 20, 3) := by decide +kernel
theorem dX3_comesOut_13 : decode cX3_comesOut 13 = .ok (.aload_n 0, 1) := by decide +kernel
theorem dX3_comesOut_14 : decode cX3_comesOut 14 = .ok (.getfield 11, 3) := by decide +kernel
theorem dX3_comesOut_17 : decode cX3_comesOut 17 = .ok (.iload_n 1, 1) := by decide +kernel
theorem dX3_comesOut_18 : decode cX3_comesOut 18 = .ok (.laload, 1) := by decide +kernel
theorem dX3_comesOut_19 : decode cX3_comesOut 19 = .ok (.ldc2_w 22, 3) := by decide +kernel
theorem dX3_comesOut_22 : decode cX3_comesOut 22 = .ok (.lcmp, 1) := by decide +kernel
theorem dX3_comesOut_23 : decode cX3_comesOut 23 = .ok (.ifCond .eq 7, 3) := by decide +kernel
theorem dX3_comesOut_26 : decode cX3_comesOut 26 = .ok (.iconst 1, 1) := by decide +kernel
theorem dX3_comesOut_27 : decode cX3_comesOut 27 = .ok (.goto 4, 3) := by decide +kernel
theorem dX3_comesOut_30 : decode cX3_comesOut 30 = .ok (.iconst 0, 1) := by decide +kernel
theorem dX3_comesOut_31 : decode cX3_comesOut 31 = .ok (.ireturn, 1) := by decide +kernel
theorem dX3_worthAt_0 : decode cX3_worthAt 0 = .ok (.aload_n 0, 1) := by decide +kernel
theorem dX3_worthAt_1 : decode cX3_worthAt 1 = .ok (.iload_n 1, 1) := by decide +kernel
theorem dX3_worthAt_2 : decode cX3_worthAt 2 = .ok (.invokevirtual 62, 3) := by decide +kernel
theorem dX3_worthAt_5 : decode cX3_worthAt 5 = .ok (.ifCond .eq 15, 3) := by decide +kernel
theorem dX3_worthAt_8 : decode cX3_worthAt 8 = .ok (.aload_n 0, 1) := by decide +kernel
theorem dX3_worthAt_9 : decode cX3_worthAt 9 = .ok (.getfield 11, 3) := by decide +kernel
theorem dX3_worthAt_12 : decode cX3_worthAt 12 = .ok (.iload_n 1, 1) := by decide +kernel
theorem dX3_worthAt_13 : decode cX3_worthAt 13 = .ok (.laload, 1) := by decide +kernel
theorem dX3_worthAt_14 : decode cX3_worthAt 14 = .ok (.invokestatic 65, 3) := by decide +kernel
theorem dX3_worthAt_17 : decode cX3_worthAt 17 = .ok (.goto 4, 3) := by decide +kernel
theorem dX3_worthAt_20 : decode cX3_worthAt 20 = .ok (.iconst 0, 1) := by decide +kernel
theorem dX3_worthAt_21 : decode cX3_worthAt 21 = .ok (.ireturn, 1) := by decide +kernel
theorem dX3_countAt_0 : decode cX3_countAt 0 = .ok (.aload_n 0, 1) := by decide +kernel
theorem dX3_countAt_1 : decode cX3_countAt 1 = .ok (.iload_n 1, 1) := by decide +kernel
theorem dX3_countAt_2 : decode cX3_countAt 2 = .ok (.invokevirtual 62, 3) := by decide +kernel
theorem dX3_countAt_5 : decode cX3_countAt 5 = .ok (.ifCond .ne 5, 3) := by decide +kernel
theorem dX3_countAt_8 : decode cX3_countAt 8 = .ok (.iconst 0, 1) := by decide +kernel
theorem dX3_countAt_9 : decode cX3_countAt 9 = .ok (.ireturn, 1) := by decide +kernel
theorem dX3_countAt_10 : decode cX3_countAt 10 = .ok (.aload_n 0, 1) := by decide +kernel
theorem dX3_countAt_11 : decode cX3_countAt 11 = .ok (.getfield 11, 3) := by decide +kernel
theorem dX3_countAt_14 : decode cX3_countAt 14 = .ok (.iload_n 1, 1) := by decide +kernel
theorem dX3_countAt_15 : decode cX3_countAt 15 = .ok (.laload, 1) := by decide +kernel
theorem dX3_countAt_16 : decode cX3_countAt 16 = .ok (.invokestatic 65, 3) := by decide +kernel
theorem dX3_countAt_19 : decode cX3_countAt 19 = .ok (.i2l, 1) := by decide +kernel
theorem dX3_countAt_20 : decode cX3_countAt 20 = .ok (.ldc2_w 60, 3) := by decide +kernel
theorem dX3_countAt_23 : decode cX3_countAt 23 = .ok (.lmul, 1) := by decide +kernel
theorem dX3_countAt_24 : decode cX3_countAt 24 = .ok (.aload_n 0, 1) := by decide +kernel
theorem dX3_countAt_25 : decode cX3_countAt 25 = .ok (.getfield 11, 3) := by decide +kernel
theorem dX3_countAt_28 : decode cX3_countAt 28 = .ok (.iload_n 1, 1) := by decide +kernel
theorem dX3_countAt_29 : decode cX3_countAt 29 = .ok (.laload, 1) := by decide +kernel
theorem dX3_countAt_30 : decode cX3_countAt 30 = .ok (.lsub, 1) := by decide +kernel
theorem dX3_countAt_31 : decode cX3_countAt 31 = .ok (.lstore_n 3, 1) := by decide +kernel
theorem dX3_countAt_32 : decode cX3_countAt 32 = .ok (.iload_n 2, 1) := by decide +kernel
theorem dX3_countAt_33 : decode cX3_countAt 33 = .ok (.iconst 1, 1) := by decide +kernel
theorem dX3_countAt_34 : decode cX3_countAt 34 = .ok (.iadd, 1) := by decide +kernel
theorem dX3_countAt_35 : decode cX3_countAt 35 = .ok (.istore 5, 2) := by decide +kernel
theorem dX3_countAt_37 : decode cX3_countAt 37 = .ok (.iload 5, 2) := by decide +kernel
theorem dX3_countAt_39 : decode cX3_countAt 39 = .ok (.bipush 6, 2) := by decide +kernel
theorem dX3_countAt_41 : decode cX3_countAt 41 = .ok (.if_icmp .ge 15, 3) := by decide +kernel
theorem dX3_countAt_44 : decode cX3_countAt 44 = .ok (.lload_n 3, 1) := by decide +kernel
theorem dX3_countAt_45 : decode cX3_countAt 45 = .ok (.ldc2_w 54, 3) := by decide +kernel
theorem dX3_countAt_48 : decode cX3_countAt 48 = .ok (.ldiv, 1) := by decide +kernel
theorem dX3_countAt_49 : decode cX3_countAt 49 = .ok (.lstore_n 3, 1) := by decide +kernel
theorem dX3_countAt_50 : decode cX3_countAt 50 = .ok (.iinc 5 1, 3) := by decide +kernel
theorem dX3_countAt_53 : decode cX3_countAt 53 = .ok (.goto (-16), 3) := by decide +kernel
theorem dX3_countAt_56 : decode cX3_countAt 56 = .ok (.lload_n 3, 1) := by decide +kernel
theorem dX3_countAt_57 : decode cX3_countAt 57 = .ok (.ldc2_w 54, 3) := by decide +kernel
theorem dX3_countAt_60 : decode cX3_countAt 60 = .ok (.lrem, 1) := by decide +kernel
theorem dX3_countAt_61 : decode cX3_countAt 61 = .ok (.l2i, 1) := by decide +kernel
theorem dX3_countAt_62 : decode cX3_countAt 62 = .ok (.ireturn, 1) := by decide +kernel
theorem dX3_worthIn_0 : decode cX3_worthIn 0 = .ok (.lload_n 0, 1) := by decide +kernel
theorem dX3_worthIn_1 : decode cX3_worthIn 1 = .ok (.ldc2_w 60, 3) := by decide +kernel
theorem dX3_worthIn_4 : decode cX3_worthIn 4 = .ok (.ladd, 1) := by decide +kernel
theorem dX3_worthIn_5 : decode cX3_worthIn 5 = .ok (.lconst 1, 1) := by decide +kernel
theorem dX3_worthIn_6 : decode cX3_worthIn 6 = .ok (.lsub, 1) := by decide +kernel
theorem dX3_worthIn_7 : decode cX3_worthIn 7 = .ok (.ldc2_w 60, 3) := by decide +kernel
theorem dX3_worthIn_10 : decode cX3_worthIn 10 = .ok (.ldiv, 1) := by decide +kernel
theorem dX3_worthIn_11 : decode cX3_worthIn 11 = .ok (.l2i, 1) := by decide +kernel
theorem dX3_worthIn_12 : decode cX3_worthIn 12 = .ok (.ireturn, 1) := by decide +kernel
theorem dX3_addThing_0 : decode cX3_addThing 0 = .ok (.aload_n 0, 1) := by decide +kernel
theorem dX3_addThing_1 : decode cX3_addThing 1 = .ok (.sipush 999, 3) := by decide +kernel
theorem dX3_addThing_4 : decode cX3_addThing 4 = .ok (.aload_n 0, 1) := by decide +kernel
theorem dX3_addThing_5 : decode cX3_addThing 5 = .ok (.getfield 30, 3) := by decide +kernel
theorem dX3_addThing_8 : decode cX3_addThing 8 = .ok (.iload_n 1, 1) := by decide +kernel
theorem dX3_addThing_9 : decode cX3_addThing 9 = .ok (.iload_n 2, 1) := by decide +kernel
theorem dX3_addThing_10 : decode cX3_addThing 10 = .ok (.imul, 1) := by decide +kernel
theorem dX3_addThing_11 : decode cX3_addThing 11 = .ok (.iadd, 1) := by decide +kernel
theorem dX3_addThing_12 : decode cX3_addThing 12 = .ok (.invokestatic 69, 3) := by decide +kernel
theorem dX3_addThing_15 : decode cX3_addThing 15 = .ok (.putfield 30, 3) := by decide +kernel
theorem dX3_addThing_18 : decode cX3_addThing 18 = .ok (.aload_n 0, 1) := by decide +kernel
theorem dX3_addThing_19 : decode cX3_addThing 19 = .ok (.getfield 30, 3) := by decide +kernel
theorem dX3_addThing_22 : decode cX3_addThing 22 = .ok (.istore_n 3, 1) := by decide +kernel
theorem dX3_addThing_23 : decode cX3_addThing 23 = .ok (.iload_n 3, 1) := by decide +kernel
theorem dX3_addThing_24 : decode cX3_addThing 24 = .ok (.ifCond .le 22, 3) := by decide +kernel
theorem dX3_addThing_27 : decode cX3_addThing 27 = .ok (.aload_n 0, 1) := by decide +kernel
theorem dX3_addThing_28 : decode cX3_addThing 28 = .ok (.getfield 11, 3) := by decide +kernel
theorem dX3_addThing_31 : decode cX3_addThing 31 = .ok (.iload_n 3, 1) := by decide +kernel
theorem dX3_addThing_32 : decode cX3_addThing 32 = .ok (.aload_n 0, 1) := by decide +kernel
theorem dX3_addThing_33 : decode cX3_addThing 33 = .ok (.iload_n 3, 1) := by decide +kernel
theorem dX3_addThing_34 : decode cX3_addThing 34 = .ok (.iload_n 1, 1) := by decide +kernel
theorem dX3_addThing_35 : decode cX3_addThing 35 = .ok (.iload_n 2, 1) := by decide +kernel
theorem dX3_addThing_36 : decode cX3_addThing 36 = .ok (.invokevirtual 74, 3) := by decide +kernel
theorem dX3_addThing_39 : decode cX3_addThing 39 = .ok (.lastore, 1) := by decide +kernel
theorem dX3_addThing_40 : decode cX3_addThing 40 = .ok (.iinc 3 (-1), 3) := by decide +kernel
theorem dX3_addThing_43 : decode cX3_addThing 43 = .ok (.goto (-20), 3) := by decide +kernel
theorem dX3_addThing_46 : decode cX3_addThing 46 = .ok (.return_, 1) := by decide +kernel
theorem dX3_bestRank_0 : decode cX3_bestRank 0 = .ok (.ldc2_w 22, 3) := by decide +kernel
theorem dX3_bestRank_3 : decode cX3_bestRank 3 = .ok (.lstore 4, 2) := by decide +kernel
theorem dX3_bestRank_5 : decode cX3_bestRank 5 = .ok (.iload_n 1, 1) := by decide +kernel
theorem dX3_bestRank_6 : decode cX3_bestRank 6 = .ok (.istore 6, 2) := by decide +kernel
theorem dX3_bestRank_8 : decode cX3_bestRank 8 = .ok (.iconst 0, 1) := by decide +kernel
theorem dX3_bestRank_9 : decode cX3_bestRank 9 = .ok (.istore 7, 2) := by decide +kernel
theorem dX3_bestRank_11 : decode cX3_bestRank 11 = .ok (.iload 7, 2) := by decide +kernel
theorem dX3_bestRank_13 : decode cX3_bestRank 13 = .ok (.iload_n 3, 1) := by decide +kernel
theorem dX3_bestRank_14 : decode cX3_bestRank 14 = .ok (.if_icmp .gt 76, 3) := by decide +kernel
theorem dX3_bestRank_17 : decode cX3_bestRank 17 = .ok (.iload 7, 2) := by decide +kernel
theorem dX3_bestRank_19 : decode cX3_bestRank 19 = .ok (.aload_n 0, 1) := by decide +kernel
theorem dX3_bestRank_20 : decode cX3_bestRank 20 = .ok (.getfield 15, 3) := by decide +kernel
theorem dX3_bestRank_23 : decode cX3_bestRank 23 = .ok (.arraylength, 1) := by decide +kernel
theorem dX3_bestRank_24 : decode cX3_bestRank 24 = .ok (.if_icmp .ge 66, 3) := by decide +kernel
theorem dX3_bestRank_27 : decode cX3_bestRank 27 = .ok (.iload 6, 2) := by decide +kernel
theorem dX3_bestRank_29 : decode cX3_bestRank 29 = .ok (.ifCond .lt 61, 3) := by decide +kernel
theorem dX3_bestRank_32 : decode cX3_bestRank 32 = .ok (.aload_n 0, 1) := by decide +kernel
theorem dX3_bestRank_33 : decode cX3_bestRank 33 = .ok (.getfield 11, 3) := by decide +kernel
theorem dX3_bestRank_36 : decode cX3_bestRank 36 = .ok (.iload 6, 2) := by decide +kernel
theorem dX3_bestRank_38 : decode cX3_bestRank 38 = .ok (.laload, 1) := by decide +kernel
theorem dX3_bestRank_39 : decode cX3_bestRank 39 = .ok (.lstore 8, 2) := by decide +kernel
theorem dX3_bestRank_41 : decode cX3_bestRank 41 = .ok (.lload 8, 2) := by decide +kernel
theorem dX3_bestRank_43 : decode cX3_bestRank 43 = .ok (.ldc2_w 22, 3) := by decide +kernel
theorem dX3_bestRank_46 : decode cX3_bestRank 46 = .ok (.lcmp, 1) := by decide +kernel
theorem dX3_bestRank_47 : decode cX3_bestRank 47 = .ok (.ifCond .eq 31, 3) := by decide +kernel
theorem dX3_bestRank_50 : decode cX3_bestRank 50 = .ok (.lload 8, 2) := by decide +kernel
theorem dX3_bestRank_52 : decode cX3_bestRank 52 = .ok (.aload_n 0, 1) := by decide +kernel
theorem dX3_bestRank_53 : decode cX3_bestRank 53 = .ok (.getfield 15, 3) := by decide +kernel
theorem dX3_bestRank_56 : decode cX3_bestRank 56 = .ok (.iload 7, 2) := by decide +kernel
theorem dX3_bestRank_58 : decode cX3_bestRank 58 = .ok (.laload, 1) := by decide +kernel
theorem dX3_bestRank_59 : decode cX3_bestRank 59 = .ok (.ladd, 1) := by decide +kernel
theorem dX3_bestRank_60 : decode cX3_bestRank 60 = .ok (.lload 4, 2) := by decide +kernel
theorem dX3_bestRank_62 : decode cX3_bestRank 62 = .ok (.lcmp, 1) := by decide +kernel
theorem dX3_bestRank_63 : decode cX3_bestRank 63 = .ok (.ifCond .le 15, 3) := by decide +kernel
theorem dX3_bestRank_66 : decode cX3_bestRank 66 = .ok (.lload 8, 2) := by decide +kernel
theorem dX3_bestRank_68 : decode cX3_bestRank 68 = .ok (.aload_n 0, 1) := by decide +kernel
theorem dX3_bestRank_69 : decode cX3_bestRank 69 = .ok (.getfield 15, 3) := by decide +kernel
theorem dX3_bestRank_72 : decode cX3_bestRank 72 = .ok (.iload 7, 2) := by decide +kernel
theorem dX3_bestRank_74 : decode cX3_bestRank 74 = .ok (.laload, 1) := by decide +kernel
theorem dX3_bestRank_75 : decode cX3_bestRank 75 = .ok (.ladd, 1) := by decide +kernel
theorem dX3_bestRank_76 : decode cX3_bestRank 76 = .ok (.lstore 4, 2) := by decide +kernel
theorem dX3_bestRank_78 : decode cX3_bestRank 78 = .ok (.iload 6, 2) := by decide +kernel
theorem dX3_bestRank_80 : decode cX3_bestRank 80 = .ok (.iload_n 2, 1) := by decide +kernel
theorem dX3_bestRank_81 : decode cX3_bestRank 81 = .ok (.isub, 1) := by decide +kernel
theorem dX3_bestRank_82 : decode cX3_bestRank 82 = .ok (.istore 6, 2) := by decide +kernel
theorem dX3_bestRank_84 : decode cX3_bestRank 84 = .ok (.iinc 7 1, 3) := by decide +kernel
theorem dX3_bestRank_87 : decode cX3_bestRank 87 = .ok (.goto (-76), 3) := by decide +kernel
theorem dX3_bestRank_90 : decode cX3_bestRank 90 = .ok (.lload 4, 2) := by decide +kernel
theorem dX3_bestRank_92 : decode cX3_bestRank 92 = .ok (.lreturn, 1) := by decide +kernel
theorem dX4_init_0 : decode cX4_init 0 = .ok (.aload_n 0, 1) := by decide +kernel
theorem dX4_init_1 : decode cX4_init 1 = .ok (.invokespecial 3, 3) := by decide +kernel
theorem dX4_init_4 : decode cX4_init 4 = .ok (.aload_n 0, 1) := by decide +kernel
theorem dX4_init_5 : decode cX4_init 5 = .ok (.sipush 1000, 3) := by decide +kernel
theorem dX4_init_8 : decode cX4_init 8 = .ok (.newarray .int, 2) := by decide +kernel
theorem dX4_init_10 : decode cX4_init 10 = .ok (.putfield 9, 3) := by decide +kernel
theorem dX4_init_13 : decode cX4_init 13 = .ok (.return_, 1) := by decide +kernel
theorem dX4_empty_0 : decode cX4_empty 0 = .ok (.aload_n 0, 1) := by decide +kernel
theorem dX4_empty_1 : decode cX4_empty 1 = .ok (.iconst 0, 1) := by decide +kernel
theorem dX4_empty_2 : decode cX4_empty 2 = .ok (.putfield 15, 3) := by decide +kernel
theorem dX4_empty_5 : decode cX4_empty 5 = .ok (.return_, 1) := by decide +kernel
theorem dX4_at_0 : decode cX4_at 0 = .ok (.iload_n 1, 1) := by decide +kernel
theorem dX4_at_1 : decode cX4_at 1 = .ok (.invokestatic 19, 3) := by decide +kernel
theorem dX4_at_4 : decode cX4_at 4 = .ok (.ifCond .eq 12, 3) := by decide +kernel
theorem dX4_at_7 : decode cX4_at 7 = .ok (.aload_n 0, 1) := by decide +kernel
theorem dX4_at_8 : decode cX4_at 8 = .ok (.getfield 9, 3) := by decide +kernel
theorem dX4_at_11 : decode cX4_at 11 = .ok (.iload_n 1, 1) := by decide +kernel
theorem dX4_at_12 : decode cX4_at 12 = .ok (.iaload, 1) := by decide +kernel
theorem dX4_at_13 : decode cX4_at 13 = .ok (.goto 4, 3) := by decide +kernel
theorem dX4_at_16 : decode cX4_at 16 = .ok (.iconst 0, 1) := by decide +kernel
theorem dX4_at_17 : decode cX4_at 17 = .ok (.ireturn, 1) := by decide +kernel
theorem dX4_count_0 : decode cX4_count 0 = .ok (.aload_n 0, 1) := by decide +kernel
theorem dX4_count_1 : decode cX4_count 1 = .ok (.getfield 15, 3) := by decide +kernel
theorem dX4_count_4 : decode cX4_count 4 = .ok (.ifCond .eq 4, 3) := by decide +kernel
theorem dX4_count_7 : decode cX4_count 7 = .ok (.return_, 1) := by decide +kernel
theorem dX4_count_8 : decode cX4_count 8 = .ok (.aload_n 0, 1) := by decide +kernel
theorem dX4_count_9 : decode cX4_count 9 = .ok (.getfield 9, 3) := by decide +kernel
theorem dX4_count_12 : decode cX4_count 12 = .ok (.iconst 0, 1) := by decide +kernel
theorem dX4_count_13 : decode cX4_count 13 = .ok (.invokestatic 23, 3) := by decide +kernel
theorem dX4_count_16 : decode cX4_count 16 = .ok (.aload_n 0, 1) := by decide +kernel
theorem dX4_count_17 : decode cX4_count 17 = .ok (.getfield 9, 3) := by decide +kernel
theorem dX4_count_20 : decode cX4_count 20 = .ok (.iconst 0, 1) := by decide +kernel
theorem dX4_count_21 : decode cX4_count 21 = .ok (.iconst 1, 1) := by decide +kernel
theorem dX4_count_22 : decode cX4_count 22 = .ok (.iastore, 1) := by decide +kernel
theorem dX4_count_23 : decode cX4_count 23 = .ok (.iconst 0, 1) := by decide +kernel
theorem dX4_count_24 : decode cX4_count 24 = .ok (.istore_n 2, 1) := by decide +kernel
theorem dX4_count_25 : decode cX4_count 25 = .ok (.iload_n 2, 1) := by decide +kernel
theorem dX4_count_26 : decode cX4_count 26 = .ok (.bipush 6, 2) := by decide +kernel
theorem dX4_count_28 : decode cX4_count 28 = .ok (.if_icmp .ge 33, 3) := by decide +kernel
theorem dX4_count_31 : decode cX4_count 31 = .ok (.aload_n 1, 1) := by decide +kernel
theorem dX4_count_32 : decode cX4_count 32 = .ok (.iload_n 2, 1) := by decide +kernel
theorem dX4_count_33 : decode cX4_count 33 = .ok (.invokevirtual 29, 3) := by decide +kernel
theorem dX4_count_36 : decode cX4_count 36 = .ok (.ifCond .eq 19, 3) := by decide +kernel
theorem dX4_count_39 : decode cX4_count 39 = .ok (.aload_n 0, 1) := by decide +kernel
theorem dX4_count_40 : decode cX4_count 40 = .ok (.aload_n 1, 1) := by decide +kernel
theorem dX4_count_41 : decode cX4_count 41 = .ok (.getfield 34, 3) := by decide +kernel
theorem dX4_count_44 : decode cX4_count 44 = .ok (.iload_n 2, 1) := by decide +kernel
theorem dX4_count_45 : decode cX4_count 45 = .ok (.iaload, 1) := by decide +kernel
theorem dX4_count_46 : decode cX4_count 46 = .ok (.aload_n 1, 1) := by decide +kernel
theorem dX4_count_47 : decode cX4_count 47 = .ok (.getfield 37, 3) := by decide +kernel
theorem dX4_count_50 : decode cX4_count 50 = .ok (.iload_n 2, 1) := by decide +kernel
theorem dX4_count_51 : decode cX4_count 51 = .ok (.iaload, 1) := by decide +kernel
theorem dX4_count_52 : decode cX4_count 52 = .ok (.invokevirtual 40, 3) := by decide +kernel
theorem dX4_count_55 : decode cX4_count 55 = .ok (.iinc 2 1, 3) := by decide +kernel
theorem dX4_count_58 : decode cX4_count 58 = .ok (.goto (-33), 3) := by decide +kernel
theorem dX4_count_61 : decode cX4_count 61 = .ok (.aload_n 0, 1) := by decide +kernel
theorem dX4_count_62 : decode cX4_count 62 = .ok (.iconst 1, 1) := by decide +kernel
theorem dX4_count_63 : decode cX4_count 63 = .ok (.putfield 15, 3) := by decide +kernel
theorem dX4_count_66 : decode cX4_count 66 = .ok (.return_, 1) := by decide +kernel
theorem dX4_addThing_0 : decode cX4_addThing 0 = .ok (.iload_n 1, 1) := by decide +kernel
theorem dX4_addThing_1 : decode cX4_addThing 1 = .ok (.istore_n 3, 1) := by decide +kernel
theorem dX4_addThing_2 : decode cX4_addThing 2 = .ok (.iload_n 3, 1) := by decide +kernel
theorem dX4_addThing_3 : decode cX4_addThing 3 = .ok (.sipush 1000, 3) := by decide +kernel
theorem dX4_addThing_6 : decode cX4_addThing 6 = .ok (.if_icmp .ge 26, 3) := by decide +kernel
theorem dX4_addThing_9 : decode cX4_addThing 9 = .ok (.aload_n 0, 1) := by decide +kernel
theorem dX4_addThing_10 : decode cX4_addThing 10 = .ok (.getfield 9, 3) := by decide +kernel
theorem dX4_addThing_13 : decode cX4_addThing 13 = .ok (.iload_n 3, 1) := by decide +kernel
theorem dX4_addThing_14 : decode cX4_addThing 14 = .ok (.dup2, 1) := by decide +kernel
theorem dX4_addThing_15 : decode cX4_addThing 15 = .ok (.iaload, 1) := by decide +kernel
theorem dX4_addThing_16 : decode cX4_addThing 16 = .ok (.aload_n 0, 1) := by decide +kernel
theorem dX4_addThing_17 : decode cX4_addThing 17 = .ok (.getfield 9, 3) := by decide +kernel
theorem dX4_addThing_20 : decode cX4_addThing 20 = .ok (.iload_n 3, 1) := by decide +kernel
theorem dX4_addThing_21 : decode cX4_addThing 21 = .ok (.iload_n 1, 1) := by decide +kernel
theorem dX4_addThing_22 : decode cX4_addThing 22 = .ok (.isub, 1) := by decide +kernel
theorem dX4_addThing_23 : decode cX4_addThing 23 = .ok (.iaload, 1) := by decide +kernel
theorem dX4_addThing_24 : decode cX4_addThing 24 = .ok (.iadd, 1) := by decide +kernel
theorem dX4_addThing_25 : decode cX4_addThing 25 = .ok (.iastore, 1) := by decide +kernel
theorem dX4_addThing_26 : decode cX4_addThing 26 = .ok (.iinc 3 1, 3) := by decide +kernel
theorem dX4_addThing_29 : decode cX4_addThing 29 = .ok (.goto (-27), 3) := by decide +kernel
theorem dX4_addThing_32 : decode cX4_addThing 32 = .ok (.iload_n 1, 1) := by decide +kernel
theorem dX4_addThing_33 : decode cX4_addThing 33 = .ok (.iload_n 2, 1) := by decide +kernel
theorem dX4_addThing_34 : decode cX4_addThing 34 = .ok (.iconst 1, 1) := by decide +kernel
theorem dX4_addThing_35 : decode cX4_addThing 35 = .ok (.iadd, 1) := by decide +kernel
theorem dX4_addThing_36 : decode cX4_addThing 36 = .ok (.imul, 1) := by decide +kernel
theorem dX4_addThing_37 : decode cX4_addThing 37 = .ok (.istore_n 3, 1) := by decide +kernel
theorem dX4_addThing_38 : decode cX4_addThing 38 = .ok (.sipush 999, 3) := by decide +kernel
theorem dX4_addThing_41 : decode cX4_addThing 41 = .ok (.istore 4, 2) := by decide +kernel
theorem dX4_addThing_43 : decode cX4_addThing 43 = .ok (.iload 4, 2) := by decide +kernel
theorem dX4_addThing_45 : decode cX4_addThing 45 = .ok (.iload_n 3, 1) := by decide +kernel
theorem dX4_addThing_46 : decode cX4_addThing 46 = .ok (.if_icmp .lt 28, 3) := by decide +kernel
theorem dX4_addThing_49 : decode cX4_addThing 49 = .ok (.aload_n 0, 1) := by decide +kernel
theorem dX4_addThing_50 : decode cX4_addThing 50 = .ok (.getfield 9, 3) := by decide +kernel
theorem dX4_addThing_53 : decode cX4_addThing 53 = .ok (.iload 4, 2) := by decide +kernel
theorem dX4_addThing_55 : decode cX4_addThing 55 = .ok (.dup2, 1) := by decide +kernel
theorem dX4_addThing_56 : decode cX4_addThing 56 = .ok (.iaload, 1) := by decide +kernel
theorem dX4_addThing_57 : decode cX4_addThing 57 = .ok (.aload_n 0, 1) := by decide +kernel
theorem dX4_addThing_58 : decode cX4_addThing 58 = .ok (.getfield 9, 3) := by decide +kernel
theorem dX4_addThing_61 : decode cX4_addThing 61 = .ok (.iload 4, 2) := by decide +kernel
theorem dX4_addThing_63 : decode cX4_addThing 63 = .ok (.iload_n 3, 1) := by decide +kernel
theorem dX4_addThing_64 : decode cX4_addThing 64 = .ok (.isub, 1) := by decide +kernel
theorem dX4_addThing_65 : decode cX4_addThing 65 = .ok (.iaload, 1) := by decide +kernel
theorem dX4_addThing_66 : decode cX4_addThing 66 = .ok (.isub, 1) := by decide +kernel
theorem dX4_addThing_67 : decode cX4_addThing 67 = .ok (.iastore, 1) := by decide +kernel
theorem dX4_addThing_68 : decode cX4_addThing 68 = .ok (.iinc 4 (-1), 3) := by decide +kernel
theorem dX4_addThing_71 : decode cX4_addThing 71 = .ok (.goto (-28), 3) := by decide +kernel
theorem dX4_addThing_74 : decode cX4_addThing 74 = .ok (.return_, 1) := by decide +kernel
theorem dX5_init_0 : decode cX5_init 0 = .ok (.aload_n 0, 1) := by decide +kernel
theorem dX5_init_1 : decode cX5_init 1 = .ok (.invokespecial 3, 3) := by decide +kernel
theorem dX5_init_4 : decode cX5_init 4 = .ok (.aload_n 0, 1) := by decide +kernel
theorem dX5_init_5 : decode cX5_init 5 = .ok (.bipush 6, 2) := by decide +kernel
theorem dX5_init_7 : decode cX5_init 7 = .ok (.newarray .int, 2) := by decide +kernel
theorem dX5_init_9 : decode cX5_init 9 = .ok (.putfield 9, 3) := by decide +kernel
theorem dX5_init_12 : decode cX5_init 12 = .ok (.aload_n 0, 1) := by decide +kernel
theorem dX5_init_13 : decode cX5_init 13 = .ok (.bipush 6, 2) := by decide +kernel
theorem dX5_init_15 : decode cX5_init 15 = .ok (.newarray .int, 2) := by decide +kernel
theorem dX5_init_17 : decode cX5_init 17 = .ok (.putfield 15, 3) := by decide +kernel
theorem dX5_init_20 : decode cX5_init 20 = .ok (.aload_n 0, 1) := by decide +kernel
theorem dX5_init_21 : decode cX5_init 21 = .ok (.bipush 6, 2) := by decide +kernel
theorem dX5_init_23 : decode cX5_init 23 = .ok (.newarray .int, 2) := by decide +kernel
theorem dX5_init_25 : decode cX5_init 25 = .ok (.putfield 18, 3) := by decide +kernel
theorem dX5_init_28 : decode cX5_init 28 = .ok (.aload_n 0, 1) := by decide +kernel
theorem dX5_init_29 : decode cX5_init 29 = .ok (.bipush 6, 2) := by decide +kernel
theorem dX5_init_31 : decode cX5_init 31 = .ok (.newarray .int, 2) := by decide +kernel
theorem dX5_init_33 : decode cX5_init 33 = .ok (.putfield 21, 3) := by decide +kernel
theorem dX5_init_36 : decode cX5_init 36 = .ok (.aload_n 0, 1) := by decide +kernel
theorem dX5_init_37 : decode cX5_init 37 = .ok (.iconst 4, 1) := by decide +kernel
theorem dX5_init_38 : decode cX5_init 38 = .ok (.newarray .int, 2) := by decide +kernel
theorem dX5_init_40 : decode cX5_init 40 = .ok (.putfield 24, 3) := by decide +kernel
theorem dX5_init_43 : decode cX5_init 43 = .ok (.aload_n 0, 1) := by decide +kernel
theorem dX5_init_44 : decode cX5_init 44 = .ok (.bipush 6, 2) := by decide +kernel
theorem dX5_init_46 : decode cX5_init 46 = .ok (.newarray .int, 2) := by decide +kernel
theorem dX5_init_48 : decode cX5_init 48 = .ok (.putfield 27, 3) := by decide +kernel
theorem dX5_init_51 : decode cX5_init 51 = .ok (.aload_n 0, 1) := by decide +kernel
theorem dX5_init_52 : decode cX5_init 52 = .ok (.bipush 6, 2) := by decide +kernel
theorem dX5_init_54 : decode cX5_init 54 = .ok (.newarray .int, 2) := by decide +kernel
theorem dX5_init_56 : decode cX5_init 56 = .ok (.putfield 30, 3) := by decide +kernel
theorem dX5_init_59 : decode cX5_init 59 = .ok (.aload_n 0, 1) := by decide +kernel
theorem dX5_init_60 : decode cX5_init 60 = .ok (.bipush 6, 2) := by decide +kernel
theorem dX5_init_62 : decode cX5_init 62 = .ok (.newarray .int, 2) := by decide +kernel
theorem dX5_init_64 : decode cX5_init 64 = .ok (.putfield 33, 3) := by decide +kernel
theorem dX5_init_67 : decode cX5_init 67 = .ok (.aload_n 0, 1) := by decide +kernel
theorem dX5_init_68 : decode cX5_init 68 = .ok (.getfield 24, 3) := by decide +kernel
theorem dX5_init_71 : decode cX5_init 71 = .ok (.iconst (-1), 1) := by decide +kernel
theorem dX5_init_72 : decode cX5_init 72 = .ok (.invokestatic 36, 3) := by decide +kernel
theorem dX5_init_75 : decode cX5_init 75 = .ok (.return_, 1) := by decide +kernel
theorem dX5_copyFrom_0 : decode cX5_copyFrom 0 = .ok (.aload_n 1, 1) := by decide +kernel
theorem dX5_copyFrom_1 : decode cX5_copyFrom 1 = .ok (.getfield 9, 3) := by decide +kernel
theorem dX5_copyFrom_4 : decode cX5_copyFrom 4 = .ok (.iconst 0, 1) := by decide +kernel
theorem dX5_copyFrom_5 : decode cX5_copyFrom 5 = .ok (.aload_n 0, 1) := by decide +kernel
theorem dX5_copyFrom_6 : decode cX5_copyFrom 6 = .ok (.getfield 9, 3) := by decide +kernel
theorem dX5_copyFrom_9 : decode cX5_copyFrom 9 = .ok (.iconst 0, 1) := by decide +kernel
theorem dX5_copyFrom_10 : decode cX5_copyFrom 10 = .ok (.bipush 6, 2) := by decide +kernel
theorem dX5_copyFrom_12 : decode cX5_copyFrom 12 = .ok (.invokestatic 42, 3) := by decide +kernel
theorem dX5_copyFrom_15 : decode cX5_copyFrom 15 = .ok (.aload_n 1, 1) := by decide +kernel
theorem dX5_copyFrom_16 : decode cX5_copyFrom 16 = .ok (.getfield 15, 3) := by decide +kernel
theorem dX5_copyFrom_19 : decode cX5_copyFrom 19 = .ok (.iconst 0, 1) := by decide +kernel
theorem dX5_copyFrom_20 : decode cX5_copyFrom 20 = .ok (.aload_n 0, 1) := by decide +kernel
theorem dX5_copyFrom_21 : decode cX5_copyFrom 21 = .ok (.getfield 15, 3) := by decide +kernel
theorem dX5_copyFrom_24 : decode cX5_copyFrom 24 = .ok (.iconst 0, 1) := by decide +kernel
theorem dX5_copyFrom_25 : decode cX5_copyFrom 25 = .ok (.bipush 6, 2) := by decide +kernel
theorem dX5_copyFrom_27 : decode cX5_copyFrom 27 = .ok (.invokestatic 42, 3) := by decide +kernel
theorem dX5_copyFrom_30 : decode cX5_copyFrom 30 = .ok (.aload_n 1, 1) := by decide +kernel
theorem dX5_copyFrom_31 : decode cX5_copyFrom 31 = .ok (.getfield 18, 3) := by decide +kernel
theorem dX5_copyFrom_34 : decode cX5_copyFrom 34 = .ok (.iconst 0, 1) := by decide +kernel
theorem dX5_copyFrom_35 : decode cX5_copyFrom 35 = .ok (.aload_n 0, 1) := by decide +kernel
theorem dX5_copyFrom_36 : decode cX5_copyFrom 36 = .ok (.getfield 18, 3) := by decide +kernel
theorem dX5_copyFrom_39 : decode cX5_copyFrom 39 = .ok (.iconst 0, 1) := by decide +kernel
theorem dX5_copyFrom_40 : decode cX5_copyFrom 40 = .ok (.bipush 6, 2) := by decide +kernel
theorem dX5_copyFrom_42 : decode cX5_copyFrom 42 = .ok (.invokestatic 42, 3) := by decide +kernel
theorem dX5_copyFrom_45 : decode cX5_copyFrom 45 = .ok (.aload_n 1, 1) := by decide +kernel
theorem dX5_copyFrom_46 : decode cX5_copyFrom 46 = .ok (.getfield 21, 3) := by decide +kernel
theorem dX5_copyFrom_49 : decode cX5_copyFrom 49 = .ok (.iconst 0, 1) := by decide +kernel
theorem dX5_copyFrom_50 : decode cX5_copyFrom 50 = .ok (.aload_n 0, 1) := by decide +kernel
theorem dX5_copyFrom_51 : decode cX5_copyFrom 51 = .ok (.getfield 21, 3) := by decide +kernel
theorem dX5_copyFrom_54 : decode cX5_copyFrom 54 = .ok (.iconst 0, 1) := by decide +kernel
theorem dX5_copyFrom_55 : decode cX5_copyFrom 55 = .ok (.bipush 6, 2) := by decide +kernel
theorem dX5_copyFrom_57 : decode cX5_copyFrom 57 = .ok (.invokestatic 42, 3) := by decide +kernel
theorem dX5_copyFrom_60 : decode cX5_copyFrom 60 = .ok (.aload_n 1, 1) := by decide +kernel
theorem dX5_copyFrom_61 : decode cX5_copyFrom 61 = .ok (.getfield 24, 3) := by decide +kernel
theorem dX5_copyFrom_64 : decode cX5_copyFrom 64 = .ok (.iconst 0, 1) := by decide +kernel
theorem dX5_copyFrom_65 : decode cX5_copyFrom 65 = .ok (.aload_n 0, 1) := by decide +kernel
theorem dX5_copyFrom_66 : decode cX5_copyFrom 66 = .ok (.getfield 24, 3) := by decide +kernel
theorem dX5_copyFrom_69 : decode cX5_copyFrom 69 = .ok (.iconst 0, 1) := by decide +kernel
theorem dX5_copyFrom_70 : decode cX5_copyFrom 70 = .ok (.iconst 4, 1) := by decide +kernel
theorem dX5_copyFrom_71 : decode cX5_copyFrom 71 = .ok (.invokestatic 42, 3) := by decide +kernel
theorem dX5_copyFrom_74 : decode cX5_copyFrom 74 = .ok (.aload_n 1, 1) := by decide +kernel
theorem dX5_copyFrom_75 : decode cX5_copyFrom 75 = .ok (.getfield 27, 3) := by decide +kernel
theorem dX5_copyFrom_78 : decode cX5_copyFrom 78 = .ok (.iconst 0, 1) := by decide +kernel
theorem dX5_copyFrom_79 : decode cX5_copyFrom 79 = .ok (.aload_n 0, 1) := by decide +kernel
theorem dX5_copyFrom_80 : decode cX5_copyFrom 80 = .ok (.getfield 27, 3) := by decide +kernel
theorem dX5_copyFrom_83 : decode cX5_copyFrom 83 = .ok (.iconst 0, 1) := by decide +kernel
theorem dX5_copyFrom_84 : decode cX5_copyFrom 84 = .ok (.bipush 6, 2) := by decide +kernel
theorem dX5_copyFrom_86 : decode cX5_copyFrom 86 = .ok (.invokestatic 42, 3) := by decide +kernel
theorem dX5_copyFrom_89 : decode cX5_copyFrom 89 = .ok (.aload_n 1, 1) := by decide +kernel
theorem dX5_copyFrom_90 : decode cX5_copyFrom 90 = .ok (.getfield 30, 3) := by decide +kernel
theorem dX5_copyFrom_93 : decode cX5_copyFrom 93 = .ok (.iconst 0, 1) := by decide +kernel
theorem dX5_copyFrom_94 : decode cX5_copyFrom 94 = .ok (.aload_n 0, 1) := by decide +kernel
theorem dX5_copyFrom_95 : decode cX5_copyFrom 95 = .ok (.getfield 30, 3) := by decide +kernel
theorem dX5_copyFrom_98 : decode cX5_copyFrom 98 = .ok (.iconst 0, 1) := by decide +kernel
theorem dX5_copyFrom_99 : decode cX5_copyFrom 99 = .ok (.bipush 6, 2) := by decide +kernel
theorem dX5_copyFrom_101 : decode cX5_copyFrom 101 = .ok (.invokestatic 42, 3) := by decide +kernel
theorem dX5_copyFrom_104 : decode cX5_copyFrom 104 = .ok (.aload_n 1, 1) := by decide +kernel
theorem dX5_copyFrom_105 : decode cX5_copyFrom 105 = .ok (.getfield 33, 3) := by decide +kernel
theorem dX5_copyFrom_108 : decode cX5_copyFrom 108 = .ok (.iconst 0, 1) := by decide +kernel
theorem dX5_copyFrom_109 : decode cX5_copyFrom 109 = .ok (.aload_n 0, 1) := by decide +kernel
theorem dX5_copyFrom_110 : decode cX5_copyFrom 110 = .ok (.getfield 33, 3) := by decide +kernel
theorem dX5_copyFrom_113 : decode cX5_copyFrom 113 = .ok (.iconst 0, 1) := by decide +kernel
theorem dX5_copyFrom_114 : decode cX5_copyFrom 114 = .ok (.bipush 6, 2) := by decide +kernel
theorem dX5_copyFrom_116 : decode cX5_copyFrom 116 = .ok (.invokestatic 42, 3) := by decide +kernel
theorem dX5_copyFrom_119 : decode cX5_copyFrom 119 = .ok (.aload_n 0, 1) := by decide +kernel
theorem dX5_copyFrom_120 : decode cX5_copyFrom 120 = .ok (.aload_n 1, 1) := by decide +kernel
theorem dX5_copyFrom_121 : decode cX5_copyFrom 121 = .ok (.getfield 48, 3) := by decide +kernel
theorem dX5_copyFrom_124 : decode cX5_copyFrom 124 = .ok (.putfield 48, 3) := by decide +kernel
theorem dX5_copyFrom_127 : decode cX5_copyFrom 127 = .ok (.return_, 1) := by decide +kernel
theorem dX5_setThing_0 : decode cX5_setThing 0 = .ok (.aload_n 0, 1) := by decide +kernel
theorem dX5_setThing_1 : decode cX5_setThing 1 = .ok (.getfield 9, 3) := by decide +kernel
theorem dX5_setThing_4 : decode cX5_setThing 4 = .ok (.iload_n 1, 1) := by decide +kernel
theorem dX5_setThing_5 : decode cX5_setThing 5 = .ok (.iload_n 2, 1) := by decide +kernel
theorem dX5_setThing_6 : decode cX5_setThing 6 = .ok (.iastore, 1) := by decide +kernel
theorem dX5_setThing_7 : decode cX5_setThing 7 = .ok (.aload_n 0, 1) := by decide +kernel
theorem dX5_setThing_8 : decode cX5_setThing 8 = .ok (.getfield 15, 3) := by decide +kernel
theorem dX5_setThing_11 : decode cX5_setThing 11 = .ok (.iload_n 1, 1) := by decide +kernel
theorem dX5_setThing_12 : decode cX5_setThing 12 = .ok (.iload_n 3, 1) := by decide +kernel
theorem dX5_setThing_13 : decode cX5_setThing 13 = .ok (.iastore, 1) := by decide +kernel
theorem dX5_setThing_14 : decode cX5_setThing 14 = .ok (.aload_n 0, 1) := by decide +kernel
theorem dX5_setThing_15 : decode cX5_setThing 15 = .ok (.getfield 18, 3) := by decide +kernel
theorem dX5_setThing_18 : decode cX5_setThing 18 = .ok (.iload_n 1, 1) := by decide +kernel
theorem dX5_setThing_19 : decode cX5_setThing 19 = .ok (.iload 4, 2) := by decide +kernel
theorem dX5_setThing_21 : decode cX5_setThing 21 = .ok (.iastore, 1) := by decide +kernel
theorem dX5_setThing_22 : decode cX5_setThing 22 = .ok (.aload_n 0, 1) := by decide +kernel
theorem dX5_setThing_23 : decode cX5_setThing 23 = .ok (.getfield 21, 3) := by decide +kernel
theorem dX5_setThing_26 : decode cX5_setThing 26 = .ok (.iload_n 1, 1) := by decide +kernel
theorem dX5_setThing_27 : decode cX5_setThing 27 = .ok (.iload 5, 2) := by decide +kernel
theorem dX5_setThing_29 : decode cX5_setThing 29 = .ok (.iastore, 1) := by decide +kernel
theorem dX5_setThing_30 : decode cX5_setThing 30 = .ok (.return_, 1) := by decide +kernel
theorem dX5_isSold_0 : decode cX5_isSold 0 = .ok (.iload_n 1, 1) := by decide +kernel
theorem dX5_isSold_1 : decode cX5_isSold 1 = .ok (.invokestatic 52, 3) := by decide +kernel
theorem dX5_isSold_4 : decode cX5_isSold 4 = .ok (.ifCond .eq 16, 3) := by decide +kernel
theorem dX5_isSold_7 : decode cX5_isSold 7 = .ok (.aload_n 0, 1) := by decide +kernel
theorem dX5_isSold_8 : decode cX5_isSold 8 = .ok (.getfield 9, 3) := by decide +kernel
theorem dX5_isSold_11 : decode cX5_isSold 11 = .ok (.iload_n 1, 1) := by decide +kernel
theorem dX5_isSold_12 : decode cX5_isSold 12 = .ok (.iaload, 1) := by decide +kernel
theorem dX5_isSold_13 : decode cX5_isSold 13 = .ok (.ifCond .le 7, 3) := by decide +kernel
theorem dX5_isSold_16 : decode cX5_isSold 16 = .ok (.iconst 1, 1) := by decide +kernel
theorem dX5_isSold_17 : decode cX5_isSold 17 = .ok (.goto 4, 3) := by decide +kernel
theorem dX5_isSold_20 : decode cX5_isSold 20 = .ok (.iconst 0, 1) := by decide +kernel
theorem dX5_isSold_21 : decode cX5_isSold 21 = .ok (.ireturn, 1) := by decide +kernel
theorem dX5_hasPurse_0 : decode cX5_hasPurse 0 = .ok (.iload_n 1, 1) := by decide +kernel
theorem dX5_hasPurse_1 : decode cX5_hasPurse 1 = .ok (.iconst 0, 1) := by decide +kernel
theorem dX5_hasPurse_2 : decode cX5_hasPurse 2 = .ok (.iconst 3, 1) := by decide +kernel
theorem dX5_hasPurse_3 : decode cX5_hasPurse 3 = .ok (.invokestatic 56, 3) := by decide +kernel
theorem dX5_hasPurse_6 : decode cX5_hasPurse 6 = .ok (.ifCond .eq 16, 3) := by decide +kernel
theorem dX5_hasPurse_9 : decode cX5_hasPurse 9 = .ok (.aload_n 0, 1) := by decide +kernel
theorem dX5_hasPurse_10 : decode cX5_hasPurse 10 = .ok (.getfield 24, 3) := by decide +kernel
theorem dX5_hasPurse_13 : decode cX5_hasPurse 13 = .ok (.iload_n 1, 1) := by decide +kernel
theorem dX5_hasPurse_14 : decode cX5_hasPurse 14 = .ok (.iaload, 1) := by decide +kernel
theorem dX5_hasPurse_15 : decode cX5_hasPurse 15 = .ok (.ifCond .lt 7, 3) := by decide +kernel
theorem dX5_hasPurse_18 : decode cX5_hasPurse 18 = .ok (.iconst 1, 1) := by decide +kernel
theorem dX5_hasPurse_19 : decode cX5_hasPurse 19 = .ok (.goto 4, 3) := by decide +kernel
theorem dX5_hasPurse_22 : decode cX5_hasPurse 22 = .ok (.iconst 0, 1) := by decide +kernel
theorem dX5_hasPurse_23 : decode cX5_hasPurse 23 = .ok (.ireturn, 1) := by decide +kernel
theorem dX5_worthOf_0 : decode cX5_worthOf 0 = .ok (.iconst 0, 1) := by decide +kernel
theorem dX5_worthOf_1 : decode cX5_worthOf 1 = .ok (.istore_n 3, 1) := by decide +kernel
theorem dX5_worthOf_2 : decode cX5_worthOf 2 = .ok (.iconst 0, 1) := by decide +kernel
theorem dX5_worthOf_3 : decode cX5_worthOf 3 = .ok (.istore 4, 2) := by decide +kernel
theorem dX5_worthOf_5 : decode cX5_worthOf 5 = .ok (.iload 4, 2) := by decide +kernel
theorem dX5_worthOf_7 : decode cX5_worthOf 7 = .ok (.iload_n 2, 1) := by decide +kernel
theorem dX5_worthOf_8 : decode cX5_worthOf 8 = .ok (.if_icmp .ge 32, 3) := by decide +kernel
theorem dX5_worthOf_11 : decode cX5_worthOf 11 = .ok (.iload_n 3, 1) := by decide +kernel
theorem dX5_worthOf_12 : decode cX5_worthOf 12 = .ok (.iconst 0, 1) := by decide +kernel
theorem dX5_worthOf_13 : decode cX5_worthOf 13 = .ok (.aload_n 0, 1) := by decide +kernel
theorem dX5_worthOf_14 : decode cX5_worthOf 14 = .ok (.getfield 18, 3) := by decide +kernel
theorem dX5_worthOf_17 : decode cX5_worthOf 17 = .ok (.iload_n 1, 1) := by decide +kernel
theorem dX5_worthOf_18 : decode cX5_worthOf 18 = .ok (.iaload, 1) := by decide +kernel
theorem dX5_worthOf_19 : decode cX5_worthOf 19 = .ok (.iload 4, 2) := by decide +kernel
theorem dX5_worthOf_21 : decode cX5_worthOf 21 = .ok (.aload_n 0, 1) := by decide +kernel
theorem dX5_worthOf_22 : decode cX5_worthOf 22 = .ok (.getfield 21, 3) := by decide +kernel
theorem dX5_worthOf_25 : decode cX5_worthOf 25 = .ok (.iload_n 1, 1) := by decide +kernel
theorem dX5_worthOf_26 : decode cX5_worthOf 26 = .ok (.iaload, 1) := by decide +kernel
theorem dX5_worthOf_27 : decode cX5_worthOf 27 = .ok (.imul, 1) := by decide +kernel
theorem dX5_worthOf_28 : decode cX5_worthOf 28 = .ok (.isub, 1) := by decide +kernel
theorem dX5_worthOf_29 : decode cX5_worthOf 29 = .ok (.invokestatic 60, 3) := by decide +kernel
theorem dX5_worthOf_32 : decode cX5_worthOf 32 = .ok (.iadd, 1) := by decide +kernel
theorem dX5_worthOf_33 : decode cX5_worthOf 33 = .ok (.istore_n 3, 1) := by decide +kernel
theorem dX5_worthOf_34 : decode cX5_worthOf 34 = .ok (.iinc 4 1, 3) := by decide +kernel
theorem dX5_worthOf_37 : decode cX5_worthOf 37 = .ok (.goto (-32), 3) := by decide +kernel
theorem dX5_worthOf_40 : decode cX5_worthOf 40 = .ok (.iload_n 3, 1) := by decide +kernel
theorem dX5_worthOf_41 : decode cX5_worthOf 41 = .ok (.ireturn, 1) := by decide +kernel
theorem dX5_addSight_0 : decode cX5_addSight 0 = .ok (.aload_n 0, 1) := by decide +kernel
theorem dX5_addSight_1 : decode cX5_addSight 1 = .ok (.getfield 48, 3) := by decide +kernel
theorem dX5_addSight_4 : decode cX5_addSight 4 = .ok (.bipush 6, 2) := by decide +kernel
theorem dX5_addSight_6 : decode cX5_addSight 6 = .ok (.if_icmp .lt 5, 3) := by decide +kernel
theorem dX5_addSight_9 : decode cX5_addSight 9 = .ok (.iconst 0, 1) := by decide +kernel
theorem dX5_addSight_10 : decode cX5_addSight 10 = .ok (.ireturn, 1) := by decide +kernel
theorem dX5_addSight_11 : decode cX5_addSight 11 = .ok (.aload_n 0, 1) := by decide +kernel
theorem dX5_addSight_12 : decode cX5_addSight 12 = .ok (.getfield 27, 3) := by decide +kernel
theorem dX5_addSight_15 : decode cX5_addSight 15 = .ok (.aload_n 0, 1) := by decide +kernel
theorem dX5_addSight_16 : decode cX5_addSight 16 = .ok (.getfield 48, 3) := by decide +kernel
theorem dX5_addSight_19 : decode cX5_addSight 19 = .ok (.iload_n 1, 1) := by decide +kernel
theorem dX5_addSight_20 : decode cX5_addSight 20 = .ok (.iastore, 1) := by decide +kernel
theorem dX5_addSight_21 : decode cX5_addSight 21 = .ok (.aload_n 0, 1) := by decide +kernel
theorem dX5_addSight_22 : decode cX5_addSight 22 = .ok (.getfield 30, 3) := by decide +kernel
theorem dX5_addSight_25 : decode cX5_addSight 25 = .ok (.aload_n 0, 1) := by decide +kernel
theorem dX5_addSight_26 : decode cX5_addSight 26 = .ok (.getfield 48, 3) := by decide +kernel
theorem dX5_addSight_29 : decode cX5_addSight 29 = .ok (.iload_n 2, 1) := by decide +kernel
theorem dX5_addSight_30 : decode cX5_addSight 30 = .ok (.iastore, 1) := by decide +kernel
theorem dX5_addSight_31 : decode cX5_addSight 31 = .ok (.aload_n 0, 1) := by decide +kernel
theorem dX5_addSight_32 : decode cX5_addSight 32 = .ok (.getfield 33, 3) := by decide +kernel
theorem dX5_addSight_35 : decode cX5_addSight 35 = .ok (.aload_n 0, 1) := by decide +kernel
theorem dX5_addSight_36 : decode cX5_addSight 36 = .ok (.getfield 48, 3) := by decide +kernel
theorem dX5_addSight_39 : decode cX5_addSight 39 = .ok (.iload_n 3, 1) := by decide +kernel
theorem dX5_addSight_40 : decode cX5_addSight 40 = .ok (.iastore, 1) := by decide +kernel
theorem dX5_addSight_41 : decode cX5_addSight 41 = .ok (.aload_n 0, 1) := by decide +kernel
theorem dX5_addSight_42 : decode cX5_addSight 42 = .ok (.dup, 1) := by decide +kernel
theorem dX5_addSight_43 : decode cX5_addSight 43 = .ok (.getfield 48, 3) := by decide +kernel
theorem dX5_addSight_46 : decode cX5_addSight 46 = .ok (.iconst 1, 1) := by decide +kernel
theorem dX5_addSight_47 : decode cX5_addSight 47 = .ok (.iadd, 1) := by decide +kernel
theorem dX5_addSight_48 : decode cX5_addSight 48 = .ok (.putfield 48, 3) := by decide +kernel
theorem dX5_addSight_51 : decode cX5_addSight 51 = .ok (.iconst 1, 1) := by decide +kernel
theorem dX5_addSight_52 : decode cX5_addSight 52 = .ok (.ireturn, 1) := by decide +kernel
theorem dX5_sightHolds_0 : decode cX5_sightHolds 0 = .ok (.aload_n 2, 1) := by decide +kernel
theorem dX5_sightHolds_1 : decode cX5_sightHolds 1 = .ok (.iload_n 3, 1) := by decide +kernel
theorem dX5_sightHolds_2 : decode cX5_sightHolds 2 = .ok (.aload_n 0, 1) := by decide +kernel
theorem dX5_sightHolds_3 : decode cX5_sightHolds 3 = .ok (.getfield 27, 3) := by decide +kernel
theorem dX5_sightHolds_6 : decode cX5_sightHolds 6 = .ok (.iload_n 1, 1) := by decide +kernel
theorem dX5_sightHolds_7 : decode cX5_sightHolds 7 = .ok (.iaload, 1) := by decide +kernel
theorem dX5_sightHolds_8 : decode cX5_sightHolds 8 = .ok (.invokevirtual 66, 3) := by decide +kernel
theorem dX5_sightHolds_11 : decode cX5_sightHolds 11 = .ok (.istore 4, 2) := by decide +kernel
theorem dX5_sightHolds_13 : decode cX5_sightHolds 13 = .ok (.aload_n 0, 1) := by decide +kernel
theorem dX5_sightHolds_14 : decode cX5_sightHolds 14 = .ok (.getfield 33, 3) := by decide +kernel
theorem dX5_sightHolds_17 : decode cX5_sightHolds 17 = .ok (.iload_n 1, 1) := by decide +kernel
theorem dX5_sightHolds_18 : decode cX5_sightHolds 18 = .ok (.iaload, 1) := by decide +kernel
theorem dX5_sightHolds_19 : decode cX5_sightHolds 19 = .ok (.ifCond .ne 22, 3) := by decide +kernel
theorem dX5_sightHolds_22 : decode cX5_sightHolds 22 = .ok (.iload 4, 2) := by decide +kernel
theorem dX5_sightHolds_24 : decode cX5_sightHolds 24 = .ok (.aload_n 0, 1) := by decide +kernel
theorem dX5_sightHolds_25 : decode cX5_sightHolds 25 = .ok (.getfield 30, 3) := by decide +kernel
theorem dX5_sightHolds_28 : decode cX5_sightHolds 28 = .ok (.iload_n 1, 1) := by decide +kernel
theorem dX5_sightHolds_29 : decode cX5_sightHolds 29 = .ok (.iaload, 1) := by decide +kernel
theorem dX5_sightHolds_30 : decode cX5_sightHolds 30 = .ok (.if_icmp .ne 7, 3) := by decide +kernel
theorem dX5_sightHolds_33 : decode cX5_sightHolds 33 = .ok (.iconst 1, 1) := by decide +kernel
theorem dX5_sightHolds_34 : decode cX5_sightHolds 34 = .ok (.goto 23, 3) := by decide +kernel
theorem dX5_sightHolds_37 : decode cX5_sightHolds 37 = .ok (.iconst 0, 1) := by decide +kernel
theorem dX5_sightHolds_38 : decode cX5_sightHolds 38 = .ok (.goto 19, 3) := by decide +kernel
theorem dX5_sightHolds_41 : decode cX5_sightHolds 41 = .ok (.iload 4, 2) := by decide +kernel
theorem dX5_sightHolds_43 : decode cX5_sightHolds 43 = .ok (.aload_n 0, 1) := by decide +kernel
theorem dX5_sightHolds_44 : decode cX5_sightHolds 44 = .ok (.getfield 30, 3) := by decide +kernel
theorem dX5_sightHolds_47 : decode cX5_sightHolds 47 = .ok (.iload_n 1, 1) := by decide +kernel
theorem dX5_sightHolds_48 : decode cX5_sightHolds 48 = .ok (.iaload, 1) := by decide +kernel
theorem dX5_sightHolds_49 : decode cX5_sightHolds 49 = .ok (.if_icmp .le 7, 3) := by decide +kernel
theorem dX5_sightHolds_52 : decode cX5_sightHolds 52 = .ok (.iconst 1, 1) := by decide +kernel
theorem dX5_sightHolds_53 : decode cX5_sightHolds 53 = .ok (.goto 4, 3) := by decide +kernel
theorem dX5_sightHolds_56 : decode cX5_sightHolds 56 = .ok (.iconst 0, 1) := by decide +kernel
theorem dX5_sightHolds_57 : decode cX5_sightHolds 57 = .ok (.ireturn, 1) := by decide +kernel
theorem dX5_tellThing_0 : decode cX5_tellThing 0 = .ok (.iload_n 2, 1) := by decide +kernel
theorem dX5_tellThing_1 : decode cX5_tellThing 1 = .ok (.ifCond .ne 10, 3) := by decide +kernel
theorem dX5_tellThing_4 : decode cX5_tellThing 4 = .ok (.aload_n 0, 1) := by decide +kernel
theorem dX5_tellThing_5 : decode cX5_tellThing 5 = .ok (.getfield 9, 3) := by decide +kernel
theorem dX5_tellThing_8 : decode cX5_tellThing 8 = .ok (.iload_n 1, 1) := by decide +kernel
theorem dX5_tellThing_9 : decode cX5_tellThing 9 = .ok (.iaload, 1) := by decide +kernel
theorem dX5_tellThing_10 : decode cX5_tellThing 10 = .ok (.ireturn, 1) := by decide +kernel
theorem dX5_tellThing_11 : decode cX5_tellThing 11 = .ok (.iload_n 2, 1) := by decide +kernel
theorem dX5_tellThing_12 : decode cX5_tellThing 12 = .ok (.iconst 1, 1) := by decide +kernel
theorem dX5_tellThing_13 : decode cX5_tellThing 13 = .ok (.if_icmp .ne 10, 3) := by decide +kernel
theorem dX5_tellThing_16 : decode cX5_tellThing 16 = .ok (.aload_n 0, 1) := by decide +kernel
theorem dX5_tellThing_17 : decode cX5_tellThing 17 = .ok (.getfield 15, 3) := by decide +kernel
theorem dX5_tellThing_20 : decode cX5_tellThing 20 = .ok (.iload_n 1, 1) := by decide +kernel
theorem dX5_tellThing_21 : decode cX5_tellThing 21 = .ok (.iaload, 1) := by decide +kernel
theorem dX5_tellThing_22 : decode cX5_tellThing 22 = .ok (.ireturn, 1) := by decide +kernel
theorem dX5_tellThing_23 : decode cX5_tellThing 23 = .ok (.iload_n 2, 1) := by decide +kernel
theorem dX5_tellThing_24 : decode cX5_tellThing 24 = .ok (.iconst 2, 1) := by decide +kernel
theorem dX5_tellThing_25 : decode cX5_tellThing 25 = .ok (.if_icmp .ne 12, 3) := by decide +kernel
theorem dX5_tellThing_28 : decode cX5_tellThing 28 = .ok (.aload_n 0, 1) := by decide +kernel
theorem dX5_tellThing_29 : decode cX5_tellThing 29 = .ok (.getfield 18, 3) := by decide +kernel
theorem dX5_tellThing_32 : decode cX5_tellThing 32 = .ok (.iload_n 1, 1) := by decide +kernel
theorem dX5_tellThing_33 : decode cX5_tellThing 33 = .ok (.iaload, 1) := by decide +kernel
theorem dX5_tellThing_34 : decode cX5_tellThing 34 = .ok (.goto 9, 3) := by decide +kernel
theorem dX5_tellThing_37 : decode cX5_tellThing 37 = .ok (.aload_n 0, 1) := by decide +kernel
theorem dX5_tellThing_38 : decode cX5_tellThing 38 = .ok (.getfield 21, 3) := by decide +kernel
theorem dX5_tellThing_41 : decode cX5_tellThing 41 = .ok (.iload_n 1, 1) := by decide +kernel
theorem dX5_tellThing_42 : decode cX5_tellThing 42 = .ok (.iaload, 1) := by decide +kernel
theorem dX5_tellThing_43 : decode cX5_tellThing 43 = .ok (.ireturn, 1) := by decide +kernel
theorem dX6_init_0 : decode cX6_init 0 = .ok (.aload_n 0, 1) := by decide +kernel
theorem dX6_init_1 : decode cX6_init 1 = .ok (.invokespecial 3, 3) := by decide +kernel
theorem dX6_init_4 : decode cX6_init 4 = .ok (.aload_n 0, 1) := by decide +kernel
theorem dX6_init_5 : decode cX6_init 5 = .ok (.new 9, 3) := by decide +kernel
theorem dX6_init_8 : decode cX6_init 8 = .ok (.dup, 1) := by decide +kernel
theorem dX6_init_9 : decode cX6_init 9 = .ok (.invokespecial 11, 3) := by decide +kernel
theorem dX6_init_12 : decode cX6_init 12 = .ok (.putfield 12, 3) := by decide +kernel
theorem dX6_init_15 : decode cX6_init 15 = .ok (.aload_n 0, 1) := by decide +kernel
theorem dX6_init_16 : decode cX6_init 16 = .ok (.new 16, 3) := by decide +kernel
theorem dX6_init_19 : decode cX6_init 19 = .ok (.dup, 1) := by decide +kernel
theorem dX6_init_20 : decode cX6_init 20 = .ok (.invokespecial 18, 3) := by decide +kernel
theorem dX6_init_23 : decode cX6_init 23 = .ok (.putfield 19, 3) := by decide +kernel
theorem dX6_init_26 : decode cX6_init 26 = .ok (.aload_n 0, 1) := by decide +kernel
theorem dX6_init_27 : decode cX6_init 27 = .ok (.iconst 2, 1) := by decide +kernel
theorem dX6_init_28 : decode cX6_init 28 = .ok (.anewarray 9, 3) := by decide +kernel
theorem dX6_init_31 : decode cX6_init 31 = .ok (.putfield 23, 3) := by decide +kernel
theorem dX6_init_34 : decode cX6_init 34 = .ok (.aload_n 0, 1) := by decide +kernel
theorem dX6_init_35 : decode cX6_init 35 = .ok (.iconst 2, 1) := by decide +kernel
theorem dX6_init_36 : decode cX6_init 36 = .ok (.newarray .boolean, 2) := by decide +kernel
theorem dX6_init_38 : decode cX6_init 38 = .ok (.putfield 27, 3) := by decide +kernel
theorem dX6_init_41 : decode cX6_init 41 = .ok (.aload_n 0, 1) := by decide +kernel
theorem dX6_init_42 : decode cX6_init 42 = .ok (.new 31, 3) := by decide +kernel
theorem dX6_init_45 : decode cX6_init 45 = .ok (.dup, 1) := by decide +kernel
theorem dX6_init_46 : decode cX6_init 46 = .ok (.invokespecial 33, 3) := by decide +kernel
theorem dX6_init_49 : decode cX6_init 49 = .ok (.putfield 34, 3) := by decide +kernel
theorem dX6_init_52 : decode cX6_init 52 = .ok (.aload_n 0, 1) := by decide +kernel
theorem dX6_init_53 : decode cX6_init 53 = .ok (.new 31, 3) := by decide +kernel
theorem dX6_init_56 : decode cX6_init 56 = .ok (.dup, 1) := by decide +kernel
theorem dX6_init_57 : decode cX6_init 57 = .ok (.invokespecial 33, 3) := by decide +kernel
theorem dX6_init_60 : decode cX6_init 60 = .ok (.putfield 38, 3) := by decide +kernel
theorem dX6_init_63 : decode cX6_init 63 = .ok (.aload_n 0, 1) := by decide +kernel
theorem dX6_init_64 : decode cX6_init 64 = .ok (.new 31, 3) := by decide +kernel
theorem dX6_init_67 : decode cX6_init 67 = .ok (.dup, 1) := by decide +kernel
theorem dX6_init_68 : decode cX6_init 68 = .ok (.invokespecial 33, 3) := by decide +kernel
theorem dX6_init_71 : decode cX6_init 71 = .ok (.putfield 41, 3) := by decide +kernel
theorem dX6_init_74 : decode cX6_init 74 = .ok (.aload_n 0, 1) := by decide +kernel
theorem dX6_init_75 : decode cX6_init 75 = .ok (.new 44, 3) := by decide +kernel
theorem dX6_init_78 : decode cX6_init 78 = .ok (.dup, 1) := by decide +kernel
theorem dX6_init_79 : decode cX6_init 79 = .ok (.invokespecial 46, 3) := by decide +kernel
theorem dX6_init_82 : decode cX6_init 82 = .ok (.putfield 47, 3) := by decide +kernel
theorem dX6_init_85 : decode cX6_init 85 = .ok (.aload_n 0, 1) := by decide +kernel
theorem dX6_init_86 : decode cX6_init 86 = .ok (.new 51, 3) := by decide +kernel
theorem dX6_init_89 : decode cX6_init 89 = .ok (.dup, 1) := by decide +kernel
theorem dX6_init_90 : decode cX6_init 90 = .ok (.invokespecial 53, 3) := by decide +kernel
theorem dX6_init_93 : decode cX6_init 93 = .ok (.putfield 54, 3) := by decide +kernel
theorem dX6_init_96 : decode cX6_init 96 = .ok (.aload_n 0, 1) := by decide +kernel
theorem dX6_init_97 : decode cX6_init 97 = .ok (.new 58, 3) := by decide +kernel
theorem dX6_init_100 : decode cX6_init 100 = .ok (.dup, 1) := by decide +kernel
theorem dX6_init_101 : decode cX6_init 101 = .ok (.invokespecial 60, 3) := by decide +kernel
theorem dX6_init_104 : decode cX6_init 104 = .ok (.putfield 61, 3) := by decide +kernel
theorem dX6_init_107 : decode cX6_init 107 = .ok (.iconst 0, 1) := by decide +kernel
theorem dX6_init_108 : decode cX6_init 108 = .ok (.istore_n 1, 1) := by decide +kernel
theorem dX6_init_109 : decode cX6_init 109 = .ok (.iload_n 1, 1) := by decide +kernel
theorem dX6_init_110 : decode cX6_init 110 = .ok (.aload_n 0, 1) := by decide +kernel
theorem dX6_init_111 : decode cX6_init 111 = .ok (.getfield 23, 3) := by decide +kernel
theorem dX6_init_114 : decode cX6_init 114 = .ok (.arraylength, 1) := by decide +kernel
theorem dX6_init_115 : decode cX6_init 115 = .ok (.if_icmp .ge 22, 3) := by decide +kernel
theorem dX6_init_118 : decode cX6_init 118 = .ok (.aload_n 0, 1) := by decide +kernel
theorem dX6_init_119 : decode cX6_init 119 = .ok (.getfield 23, 3) := by decide +kernel
theorem dX6_init_122 : decode cX6_init 122 = .ok (.iload_n 1, 1) := by decide +kernel
theorem dX6_init_123 : decode cX6_init 123 = .ok (.new 9, 3) := by decide +kernel
theorem dX6_init_126 : decode cX6_init 126 = .ok (.dup, 1) := by decide +kernel
theorem dX6_init_127 : decode cX6_init 127 = .ok (.invokespecial 11, 3) := by decide +kernel
theorem dX6_init_130 : decode cX6_init 130 = .ok (.aastore, 1) := by decide +kernel
theorem dX6_init_131 : decode cX6_init 131 = .ok (.iinc 1 1, 3) := by decide +kernel
theorem dX6_init_134 : decode cX6_init 134 = .ok (.goto (-25), 3) := by decide +kernel
theorem dX6_init_137 : decode cX6_init 137 = .ok (.return_, 1) := by decide +kernel
theorem dX6_thing_0 : decode cX6_thing 0 = .ok (.iload_n 1, 1) := by decide +kernel
theorem dX6_thing_1 : decode cX6_thing 1 = .ok (.invokestatic 65, 3) := by decide +kernel
theorem dX6_thing_4 : decode cX6_thing 4 = .ok (.ifCond .ne 5, 3) := by decide +kernel
theorem dX6_thing_7 : decode cX6_thing 7 = .ok (.iconst (-1), 1) := by decide +kernel
theorem dX6_thing_8 : decode cX6_thing 8 = .ok (.ireturn, 1) := by decide +kernel
theorem dX6_thing_9 : decode cX6_thing 9 = .ok (.iload_n 2, 1) := by decide +kernel
theorem dX6_thing_10 : decode cX6_thing 10 = .ok (.iconst 0, 1) := by decide +kernel
theorem dX6_thing_11 : decode cX6_thing 11 = .ok (.bipush 99, 2) := by decide +kernel
theorem dX6_thing_13 : decode cX6_thing 13 = .ok (.invokestatic 69, 3) := by decide +kernel
theorem dX6_thing_16 : decode cX6_thing 16 = .ok (.ifCond .eq 35, 3) := by decide +kernel
theorem dX6_thing_19 : decode cX6_thing 19 = .ok (.iload_n 3, 1) := by decide +kernel
theorem dX6_thing_20 : decode cX6_thing 20 = .ok (.iconst 0, 1) := by decide +kernel
theorem dX6_thing_21 : decode cX6_thing 21 = .ok (.bipush 9, 2) := by decide +kernel
theorem dX6_thing_23 : decode cX6_thing 23 = .ok (.invokestatic 69, 3) := by decide +kernel
theorem dX6_thing_26 : decode cX6_thing 26 = .ok (.ifCond .eq 25, 3) := by decide +kernel
theorem dX6_thing_29 : decode cX6_thing 29 = .ok (.iload 4, 2) := by decide +kernel
theorem dX6_thing_31 : decode cX6_thing 31 = .ok (.iconst 0, 1) := by decide +kernel
theorem dX6_thing_32 : decode cX6_thing 32 = .ok (.bipush 99, 2) := by decide +kernel
theorem dX6_thing_34 : decode cX6_thing 34 = .ok (.invokestatic 69, 3) := by decide +kernel
theorem dX6_thing_37 : decode cX6_thing 37 = .ok (.ifCond .eq 14, 3) := by decide +kernel
theorem dX6_thing_40 : decode cX6_thing 40 = .ok (.iload 5, 2) := by decide +kernel
theorem dX6_thing_42 : decode cX6_thing 42 = .ok (.iconst 0, 1) := by decide +kernel
theorem dX6_thing_43 : decode cX6_thing 43 = .ok (.bipush 99, 2) := by decide +kernel
theorem dX6_thing_45 : decode cX6_thing 45 = .ok (.invokestatic 69, 3) := by decide +kernel
theorem dX6_thing_48 : decode cX6_thing 48 = .ok (.ifCond .ne 6, 3) := by decide +kernel
theorem dX6_thing_51 : decode cX6_thing 51 = .ok (.bipush (-2), 2) := by decide +kernel
theorem dX6_thing_53 : decode cX6_thing 53 = .ok (.ireturn, 1) := by decide +kernel
theorem dX6_thing_54 : decode cX6_thing 54 = .ok (.aload_n 0, 1) := by decide +kernel
theorem dX6_thing_55 : decode cX6_thing 55 = .ok (.getfield 12, 3) := by decide +kernel
theorem dX6_thing_58 : decode cX6_thing 58 = .ok (.iload_n 1, 1) := by decide +kernel
theorem dX6_thing_59 : decode cX6_thing 59 = .ok (.iload_n 2, 1) := by decide +kernel
theorem dX6_thing_60 : decode cX6_thing 60 = .ok (.iload_n 3, 1) := by decide +kernel
theorem dX6_thing_61 : decode cX6_thing 61 = .ok (.iload 4, 2) := by decide +kernel
theorem dX6_thing_63 : decode cX6_thing 63 = .ok (.iload 5, 2) := by decide +kernel
theorem dX6_thing_65 : decode cX6_thing 65 = .ok (.invokevirtual 73, 3) := by decide +kernel
theorem dX6_thing_68 : decode cX6_thing 68 = .ok (.aload_n 0, 1) := by decide +kernel
theorem dX6_thing_69 : decode cX6_thing 69 = .ok (.invokevirtual 77, 3) := by decide +kernel
theorem dX6_thing_72 : decode cX6_thing 72 = .ok (.iconst 1, 1) := by decide +kernel
theorem dX6_thing_73 : decode cX6_thing 73 = .ok (.ireturn, 1) := by decide +kernel
theorem dX6_say_0 : decode cX6_say 0 = .ok (.iload_n 1, 1) := by decide +kernel
theorem dX6_say_1 : decode cX6_say 1 = .ok (.bipush 33, 2) := by decide +kernel
theorem dX6_say_3 : decode cX6_say 3 = .ok (.bipush 126, 2) := by decide +kernel
theorem dX6_say_5 : decode cX6_say 5 = .ok (.invokestatic 69, 3) := by decide +kernel
theorem dX6_say_8 : decode cX6_say 8 = .ok (.ifCond .ne 6, 3) := by decide +kernel
theorem dX6_say_11 : decode cX6_say 11 = .ok (.bipush (-2), 2) := by decide +kernel
theorem dX6_say_13 : decode cX6_say 13 = .ok (.ireturn, 1) := by decide +kernel
theorem dX6_say_14 : decode cX6_say 14 = .ok (.aload_n 0, 1) := by decide +kernel
theorem dX6_say_15 : decode cX6_say 15 = .ok (.getfield 19, 3) := by decide +kernel
theorem dX6_say_18 : decode cX6_say 18 = .ok (.iload_n 1, 1) := by decide +kernel
theorem dX6_say_19 : decode cX6_say 19 = .ok (.invokevirtual 80, 3) := by decide +kernel
theorem dX6_say_22 : decode cX6_say 22 = .ok (.ifCond .eq 13, 3) := by decide +kernel
theorem dX6_say_25 : decode cX6_say 25 = .ok (.aload_n 0, 1) := by decide +kernel
theorem dX6_say_26 : decode cX6_say 26 = .ok (.getfield 19, 3) := by decide +kernel
theorem dX6_say_29 : decode cX6_say 29 = .ok (.getfield 83, 3) := by decide +kernel
theorem dX6_say_32 : decode cX6_say 32 = .ok (.goto 5, 3) := by decide +kernel
theorem dX6_say_35 : decode cX6_say 35 = .ok (.bipush (-4), 2) := by decide +kernel
theorem dX6_say_37 : decode cX6_say 37 = .ok (.ireturn, 1) := by decide +kernel
theorem dX6_wipe_0 : decode cX6_wipe 0 = .ok (.aload_n 0, 1) := by decide +kernel
theorem dX6_wipe_1 : decode cX6_wipe 1 = .ok (.getfield 19, 3) := by decide +kernel
theorem dX6_wipe_4 : decode cX6_wipe 4 = .ok (.getfield 83, 3) := by decide +kernel
theorem dX6_wipe_7 : decode cX6_wipe 7 = .ok (.istore_n 1, 1) := by decide +kernel
theorem dX6_wipe_8 : decode cX6_wipe 8 = .ok (.aload_n 0, 1) := by decide +kernel
theorem dX6_wipe_9 : decode cX6_wipe 9 = .ok (.getfield 19, 3) := by decide +kernel
theorem dX6_wipe_12 : decode cX6_wipe 12 = .ok (.iconst 0, 1) := by decide +kernel
theorem dX6_wipe_13 : decode cX6_wipe 13 = .ok (.putfield 83, 3) := by decide +kernel
theorem dX6_wipe_16 : decode cX6_wipe 16 = .ok (.iload_n 1, 1) := by decide +kernel
theorem dX6_wipe_17 : decode cX6_wipe 17 = .ok (.ireturn, 1) := by decide +kernel
theorem dX6_fault_0 : decode cX6_fault 0 = .ok (.aload_n 0, 1) := by decide +kernel
theorem dX6_fault_1 : decode cX6_fault 1 = .ok (.getfield 19, 3) := by decide +kernel
theorem dX6_fault_4 : decode cX6_fault 4 = .ok (.aload_n 0, 1) := by decide +kernel
theorem dX6_fault_5 : decode cX6_fault 5 = .ok (.getfield 12, 3) := by decide +kernel
theorem dX6_fault_8 : decode cX6_fault 8 = .ok (.invokevirtual 87, 3) := by decide +kernel
theorem dX6_fault_11 : decode cX6_fault 11 = .ok (.ireturn, 1) := by decide +kernel
theorem dX6_basket_0 : decode cX6_basket 0 = .ok (.iload_n 1, 1) := by decide +kernel
theorem dX6_basket_1 : decode cX6_basket 1 = .ok (.iconst 0, 1) := by decide +kernel
theorem dX6_basket_2 : decode cX6_basket 2 = .ok (.iconst 2, 1) := by decide +kernel
theorem dX6_basket_3 : decode cX6_basket 3 = .ok (.invokestatic 69, 3) := by decide +kernel
theorem dX6_basket_6 : decode cX6_basket 6 = .ok (.ifCond .ne 6, 3) := by decide +kernel
theorem dX6_basket_9 : decode cX6_basket 9 = .ok (.bipush (-2), 2) := by decide +kernel
theorem dX6_basket_11 : decode cX6_basket 11 = .ok (.ireturn, 1) := by decide +kernel
theorem dX6_basket_12 : decode cX6_basket 12 = .ok (.aload_n 0, 1) := by decide +kernel
theorem dX6_basket_13 : decode cX6_basket 13 = .ok (.getfield 19, 3) := by decide +kernel
theorem dX6_basket_16 : decode cX6_basket 16 = .ok (.aload_n 0, 1) := by decide +kernel
theorem dX6_basket_17 : decode cX6_basket 17 = .ok (.getfield 12, 3) := by decide +kernel
theorem dX6_basket_20 : decode cX6_basket 20 = .ok (.invokevirtual 87, 3) := by decide +kernel
theorem dX6_basket_23 : decode cX6_basket 23 = .ok (.bipush (-6), 2) := by decide +kernel
theorem dX6_basket_25 : decode cX6_basket 25 = .ok (.if_icmp .eq 6, 3) := by decide +kernel
theorem dX6_basket_28 : decode cX6_basket 28 = .ok (.bipush (-5), 2) := by decide +kernel
theorem dX6_basket_30 : decode cX6_basket 30 = .ok (.ireturn, 1) := by decide +kernel
theorem dX6_basket_31 : decode cX6_basket 31 = .ok (.iload_n 1, 1) := by decide +kernel
theorem dX6_basket_32 : decode cX6_basket 32 = .ok (.ifCond .ne 15, 3) := by decide +kernel
theorem dX6_basket_35 : decode cX6_basket 35 = .ok (.aload_n 0, 1) := by decide +kernel
theorem dX6_basket_36 : decode cX6_basket 36 = .ok (.getfield 19, 3) := by decide +kernel
theorem dX6_basket_39 : decode cX6_basket 39 = .ok (.aload_n 0, 1) := by decide +kernel
theorem dX6_basket_40 : decode cX6_basket 40 = .ok (.getfield 12, 3) := by decide +kernel
theorem dX6_basket_43 : decode cX6_basket 43 = .ok (.invokevirtual 91, 3) := by decide +kernel
theorem dX6_basket_46 : decode cX6_basket 46 = .ok (.ireturn, 1) := by decide +kernel
theorem dX6_basket_47 : decode cX6_basket 47 = .ok (.iload_n 1, 1) := by decide +kernel
theorem dX6_basket_48 : decode cX6_basket 48 = .ok (.iconst 1, 1) := by decide +kernel
theorem dX6_basket_49 : decode cX6_basket 49 = .ok (.if_icmp .ne 17, 3) := by decide +kernel
theorem dX6_basket_52 : decode cX6_basket 52 = .ok (.aload_n 0, 1) := by decide +kernel
theorem dX6_basket_53 : decode cX6_basket 53 = .ok (.getfield 19, 3) := by decide +kernel
theorem dX6_basket_56 : decode cX6_basket 56 = .ok (.aload_n 0, 1) := by decide +kernel
theorem dX6_basket_57 : decode cX6_basket 57 = .ok (.getfield 12, 3) := by decide +kernel
theorem dX6_basket_60 : decode cX6_basket 60 = .ok (.invokevirtual 94, 3) := by decide +kernel
theorem dX6_basket_63 : decode cX6_basket 63 = .ok (.goto 10, 3) := by decide +kernel
theorem dX6_basket_66 : decode cX6_basket 66 = .ok (.aload_n 0, 1) := by decide +kernel
theorem dX6_basket_67 : decode cX6_basket 67 = .ok (.getfield 19, 3) := by decide +kernel
theorem dX6_basket_70 : decode cX6_basket 70 = .ok (.getfield 83, 3) := by decide +kernel
theorem dX6_basket_73 : decode cX6_basket 73 = .ok (.ireturn, 1) := by decide +kernel
theorem dX6_ways_0 : decode cX6_ways 0 = .ok (.iload_n 1, 1) := by decide +kernel
theorem dX6_ways_1 : decode cX6_ways 1 = .ok (.invokestatic 97, 3) := by decide +kernel
theorem dX6_ways_4 : decode cX6_ways 4 = .ok (.ifCond .ne 6, 3) := by decide +kernel
theorem dX6_ways_7 : decode cX6_ways 7 = .ok (.bipush (-2), 2) := by decide +kernel
theorem dX6_ways_9 : decode cX6_ways 9 = .ok (.ireturn, 1) := by decide +kernel
theorem dX6_ways_10 : decode cX6_ways 10 = .ok (.aload_n 0, 1) := by decide +kernel
theorem dX6_ways_11 : decode cX6_ways 11 = .ok (.getfield 47, 3) := by decide +kernel
theorem dX6_ways_14 : decode cX6_ways 14 = .ok (.aload_n 0, 1) := by decide +kernel
theorem dX6_ways_15 : decode cX6_ways 15 = .ok (.getfield 12, 3) := by decide +kernel
theorem dX6_ways_18 : decode cX6_ways 18 = .ok (.invokevirtual 100, 3) := by decide +kernel
theorem dX6_ways_21 : decode cX6_ways 21 = .ok (.aload_n 0, 1) := by decide +kernel
theorem dX6_ways_22 : decode cX6_ways 22 = .ok (.getfield 47, 3) := by decide +kernel
theorem dX6_ways_25 : decode cX6_ways 25 = .ok (.iload_n 1, 1) := by decide +kernel
theorem dX6_ways_26 : decode cX6_ways 26 = .ok (.invokevirtual 104, 3) := by decide +kernel
theorem dX6_ways_29 : decode cX6_ways 29 = .ok (.ireturn, 1) := by decide +kernel
theorem dX6_best_0 : decode cX6_best 0 = .ok (.iload_n 1, 1) := by decide +kernel
theorem dX6_best_1 : decode cX6_best 1 = .ok (.invokestatic 97, 3) := by decide +kernel
theorem dX6_best_4 : decode cX6_best 4 = .ok (.ifCond .ne 6, 3) := by decide +kernel
theorem dX6_best_7 : decode cX6_best 7 = .ok (.bipush (-2), 2) := by decide +kernel
theorem dX6_best_9 : decode cX6_best 9 = .ok (.ireturn, 1) := by decide +kernel
theorem dX6_best_10 : decode cX6_best 10 = .ok (.aload_n 0, 1) := by decide +kernel
theorem dX6_best_11 : decode cX6_best 11 = .ok (.invokevirtual 108, 3) := by decide +kernel
theorem dX6_best_14 : decode cX6_best 14 = .ok (.astore_n 3, 1) := by decide +kernel
theorem dX6_best_15 : decode cX6_best 15 = .ok (.aload_n 3, 1) := by decide +kernel
theorem dX6_best_16 : decode cX6_best 16 = .ok (.iload_n 1, 1) := by decide +kernel
theorem dX6_best_17 : decode cX6_best 17 = .ok (.invokevirtual 112, 3) := by decide +kernel
theorem dX6_best_20 : decode cX6_best 20 = .ok (.ifCond .eq 12, 3) := by decide +kernel
theorem dX6_best_23 : decode cX6_best 23 = .ok (.iload_n 2, 1) := by decide +kernel
theorem dX6_best_24 : decode cX6_best 24 = .ok (.iconst (-1), 1) := by decide +kernel
theorem dX6_best_25 : decode cX6_best 25 = .ok (.iconst 5, 1) := by decide +kernel
theorem dX6_best_26 : decode cX6_best 26 = .ok (.invokestatic 69, 3) := by decide +kernel
theorem dX6_best_29 : decode cX6_best 29 = .ok (.ifCond .ne 6, 3) := by decide +kernel
theorem dX6_best_32 : decode cX6_best 32 = .ok (.bipush (-6), 2) := by decide +kernel
theorem dX6_best_34 : decode cX6_best 34 = .ok (.ireturn, 1) := by decide +kernel
theorem dX6_best_35 : decode cX6_best 35 = .ok (.iload_n 2, 1) := by decide +kernel
theorem dX6_best_36 : decode cX6_best 36 = .ok (.iconst (-1), 1) := by decide +kernel
theorem dX6_best_37 : decode cX6_best 37 = .ok (.if_icmp .ne 11, 3) := by decide +kernel
theorem dX6_best_40 : decode cX6_best 40 = .ok (.aload_n 3, 1) := by decide +kernel
theorem dX6_best_41 : decode cX6_best 41 = .ok (.iload_n 1, 1) := by decide +kernel
theorem dX6_best_42 : decode cX6_best 42 = .ok (.invokevirtual 115, 3) := by decide +kernel
theorem dX6_best_45 : decode cX6_best 45 = .ok (.goto 9, 3) := by decide +kernel
theorem dX6_best_48 : decode cX6_best 48 = .ok (.aload_n 3, 1) := by decide +kernel
theorem dX6_best_49 : decode cX6_best 49 = .ok (.iload_n 1, 1) := by decide +kernel
theorem dX6_best_50 : decode cX6_best 50 = .ok (.iload_n 2, 1) := by decide +kernel
theorem dX6_best_51 : decode cX6_best 51 = .ok (.invokevirtual 118, 3) := by decide +kernel
theorem dX6_best_54 : decode cX6_best 54 = .ok (.ireturn, 1) := by decide +kernel
theorem dX6_stuck_0 : decode cX6_stuck 0 = .ok (.iload_n 1, 1) := by decide +kernel
theorem dX6_stuck_1 : decode cX6_stuck 1 = .ok (.iload_n 2, 1) := by decide +kernel
theorem dX6_stuck_2 : decode cX6_stuck 2 = .ok (.invokestatic 122, 3) := by decide +kernel
theorem dX6_stuck_5 : decode cX6_stuck 5 = .ok (.ifCond .eq 14, 3) := by decide +kernel
theorem dX6_stuck_8 : decode cX6_stuck 8 = .ok (.aload_n 0, 1) := by decide +kernel
theorem dX6_stuck_9 : decode cX6_stuck 9 = .ok (.iload_n 1, 1) := by decide +kernel
theorem dX6_stuck_10 : decode cX6_stuck 10 = .ok (.iload_n 2, 1) := by decide +kernel
theorem dX6_stuck_11 : decode cX6_stuck 11 = .ok (.iload_n 3, 1) := by decide +kernel
theorem dX6_stuck_12 : decode cX6_stuck 12 = .ok (.iconst 1, 1) := by decide +kernel
theorem dX6_stuck_13 : decode cX6_stuck 13 = .ok (.invokevirtual 126, 3) := by decide +kernel
theorem dX6_stuck_16 : decode cX6_stuck 16 = .ok (.goto 5, 3) := by decide +kernel
theorem dX6_stuck_19 : decode cX6_stuck 19 = .ok (.bipush (-2), 2) := by decide +kernel
theorem dX6_stuck_21 : decode cX6_stuck 21 = .ok (.ireturn, 1) := by decide +kernel
theorem dX6_near_0 : decode cX6_near 0 = .ok (.iload_n 1, 1) := by decide +kernel
theorem dX6_near_1 : decode cX6_near 1 = .ok (.invokestatic 97, 3) := by decide +kernel
theorem dX6_near_4 : decode cX6_near 4 = .ok (.ifCond .eq 12, 3) := by decide +kernel
theorem dX6_near_7 : decode cX6_near 7 = .ok (.iload_n 2, 1) := by decide +kernel
theorem dX6_near_8 : decode cX6_near 8 = .ok (.iconst 0, 1) := by decide +kernel
theorem dX6_near_9 : decode cX6_near 9 = .ok (.iconst 1, 1) := by decide +kernel
theorem dX6_near_10 : decode cX6_near 10 = .ok (.invokestatic 69, 3) := by decide +kernel
theorem dX6_near_13 : decode cX6_near 13 = .ok (.ifCond .ne 6, 3) := by decide +kernel
theorem dX6_near_16 : decode cX6_near 16 = .ok (.bipush (-2), 2) := by decide +kernel
theorem dX6_near_18 : decode cX6_near 18 = .ok (.ireturn, 1) := by decide +kernel
theorem dX6_near_19 : decode cX6_near 19 = .ok (.iload_n 2, 1) := by decide +kernel
theorem dX6_near_20 : decode cX6_near 20 = .ok (.ifCond .ne 11, 3) := by decide +kernel
theorem dX6_near_23 : decode cX6_near 23 = .ok (.aload_n 0, 1) := by decide +kernel
theorem dX6_near_24 : decode cX6_near 24 = .ok (.iload_n 1, 1) := by decide +kernel
theorem dX6_near_25 : decode cX6_near 25 = .ok (.invokevirtual 130, 3) := by decide +kernel
theorem dX6_near_28 : decode cX6_near 28 = .ok (.goto 8, 3) := by decide +kernel
theorem dX6_near_31 : decode cX6_near 31 = .ok (.aload_n 0, 1) := by decide +kernel
theorem dX6_near_32 : decode cX6_near 32 = .ok (.iload_n 1, 1) := by decide +kernel
theorem dX6_near_33 : decode cX6_near 33 = .ok (.invokevirtual 133, 3) := by decide +kernel
theorem dX6_near_36 : decode cX6_near 36 = .ok (.ireturn, 1) := by decide +kernel
theorem dX6_endless_0 : decode cX6_endless 0 = .ok (.iload_n 1, 1) := by decide +kernel
theorem dX6_endless_1 : decode cX6_endless 1 = .ok (.iconst 0, 1) := by decide +kernel
theorem dX6_endless_2 : decode cX6_endless 2 = .ok (.iconst 1, 1) := by decide +kernel
theorem dX6_endless_3 : decode cX6_endless 3 = .ok (.invokestatic 69, 3) := by decide +kernel
theorem dX6_endless_6 : decode cX6_endless 6 = .ok (.ifCond .ne 6, 3) := by decide +kernel
theorem dX6_endless_9 : decode cX6_endless 9 = .ok (.bipush (-2), 2) := by decide +kernel
theorem dX6_endless_11 : decode cX6_endless 11 = .ok (.ireturn, 1) := by decide +kernel
theorem dX6_endless_12 : decode cX6_endless 12 = .ok (.aload_n 0, 1) := by decide +kernel
theorem dX6_endless_13 : decode cX6_endless 13 = .ok (.getfield 54, 3) := by decide +kernel
theorem dX6_endless_16 : decode cX6_endless 16 = .ok (.aload_n 0, 1) := by decide +kernel
theorem dX6_endless_17 : decode cX6_endless 17 = .ok (.getfield 12, 3) := by decide +kernel
theorem dX6_endless_20 : decode cX6_endless 20 = .ok (.invokevirtual 136, 3) := by decide +kernel
theorem dX6_endless_23 : decode cX6_endless 23 = .ok (.aload_n 0, 1) := by decide +kernel
theorem dX6_endless_24 : decode cX6_endless 24 = .ok (.getfield 54, 3) := by decide +kernel
theorem dX6_endless_27 : decode cX6_endless 27 = .ok (.invokevirtual 139, 3) := by decide +kernel
theorem dX6_endless_30 : decode cX6_endless 30 = .ok (.ifCond .eq 6, 3) := by decide +kernel
theorem dX6_endless_33 : decode cX6_endless 33 = .ok (.bipush (-7), 2) := by decide +kernel
theorem dX6_endless_35 : decode cX6_endless 35 = .ok (.ireturn, 1) := by decide +kernel
theorem dX6_endless_36 : decode cX6_endless 36 = .ok (.iload_n 1, 1) := by decide +kernel
theorem dX6_endless_37 : decode cX6_endless 37 = .ok (.iconst 1, 1) := by decide +kernel
theorem dX6_endless_38 : decode cX6_endless 38 = .ok (.if_icmp .ne 11, 3) := by decide +kernel
theorem dX6_endless_41 : decode cX6_endless 41 = .ok (.aload_n 0, 1) := by decide +kernel
theorem dX6_endless_42 : decode cX6_endless 42 = .ok (.getfield 54, 3) := by decide +kernel
theorem dX6_endless_45 : decode cX6_endless 45 = .ok (.invokevirtual 143, 3) := by decide +kernel
theorem dX6_endless_48 : decode cX6_endless 48 = .ok (.ireturn, 1) := by decide +kernel
theorem dX6_endless_49 : decode cX6_endless 49 = .ok (.aload_n 0, 1) := by decide +kernel
theorem dX6_endless_50 : decode cX6_endless 50 = .ok (.getfield 54, 3) := by decide +kernel
theorem dX6_endless_53 : decode cX6_endless 53 = .ok (.invokevirtual 147, 3) := by decide +kernel
theorem dX6_endless_56 : decode cX6_endless 56 = .ok (.istore_n 2, 1) := by decide +kernel
theorem dX6_endless_57 : decode cX6_endless 57 = .ok (.iload_n 2, 1) := by decide +kernel
theorem dX6_endless_58 : decode cX6_endless 58 = .ok (.ifCond .ge 8, 3) := by decide +kernel
theorem dX6_endless_61 : decode cX6_endless 61 = .ok (.bipush (-6), 2) := by decide +kernel
theorem dX6_endless_63 : decode cX6_endless 63 = .ok (.goto 4, 3) := by decide +kernel
theorem dX6_endless_66 : decode cX6_endless 66 = .ok (.iload_n 2, 1) := by decide +kernel
theorem dX6_endless_67 : decode cX6_endless 67 = .ok (.ireturn, 1) := by decide +kernel
theorem dX6_pins_0 : decode cX6_pins 0 = .ok (.iload_n 1, 1) := by decide +kernel
theorem dX6_pins_1 : decode cX6_pins 1 = .ok (.invokestatic 97, 3) := by decide +kernel
theorem dX6_pins_4 : decode cX6_pins 4 = .ok (.ifCond .ne 6, 3) := by decide +kernel
theorem dX6_pins_7 : decode cX6_pins 7 = .ok (.bipush (-2), 2) := by decide +kernel
theorem dX6_pins_9 : decode cX6_pins 9 = .ok (.ireturn, 1) := by decide +kernel
theorem dX6_pins_10 : decode cX6_pins 10 = .ok (.aload_n 0, 1) := by decide +kernel
theorem dX6_pins_11 : decode cX6_pins 11 = .ok (.invokevirtual 108, 3) := by decide +kernel
theorem dX6_pins_14 : decode cX6_pins 14 = .ok (.astore_n 2, 1) := by decide +kernel
theorem dX6_pins_15 : decode cX6_pins 15 = .ok (.iconst 0, 1) := by decide +kernel
theorem dX6_pins_16 : decode cX6_pins 16 = .ok (.istore_n 3, 1) := by decide +kernel
theorem dX6_pins_17 : decode cX6_pins 17 = .ok (.iload_n 3, 1) := by decide +kernel
theorem dX6_pins_18 : decode cX6_pins 18 = .ok (.bipush 99, 2) := by decide +kernel
theorem dX6_pins_20 : decode cX6_pins 20 = .ok (.if_icmp .gt 21, 3) := by decide +kernel
theorem dX6_pins_23 : decode cX6_pins 23 = .ok (.aload_n 2, 1) := by decide +kernel
theorem dX6_pins_24 : decode cX6_pins 24 = .ok (.iload_n 1, 1) := by decide +kernel
theorem dX6_pins_25 : decode cX6_pins 25 = .ok (.iload_n 3, 1) := by decide +kernel
theorem dX6_pins_26 : decode cX6_pins 26 = .ok (.isub, 1) := by decide +kernel
theorem dX6_pins_27 : decode cX6_pins 27 = .ok (.invokevirtual 112, 3) := by decide +kernel
theorem dX6_pins_30 : decode cX6_pins 30 = .ok (.ifCond .eq 5, 3) := by decide +kernel
theorem dX6_pins_33 : decode cX6_pins 33 = .ok (.iload_n 3, 1) := by decide +kernel
theorem dX6_pins_34 : decode cX6_pins 34 = .ok (.ireturn, 1) := by decide +kernel
theorem dX6_pins_35 : decode cX6_pins 35 = .ok (.iinc 3 1, 3) := by decide +kernel
theorem dX6_pins_38 : decode cX6_pins 38 = .ok (.goto (-21), 3) := by decide +kernel
theorem dX6_pins_41 : decode cX6_pins 41 = .ok (.bipush (-6), 2) := by decide +kernel
theorem dX6_pins_43 : decode cX6_pins 43 = .ok (.ireturn, 1) := by decide +kernel
theorem dX6_weeks_0 : decode cX6_weeks 0 = .ok (.iload_n 1, 1) := by decide +kernel
theorem dX6_weeks_1 : decode cX6_weeks 1 = .ok (.invokestatic 97, 3) := by decide +kernel
theorem dX6_weeks_4 : decode cX6_weeks 4 = .ok (.ifCond .eq 14, 3) := by decide +kernel
theorem dX6_weeks_7 : decode cX6_weeks 7 = .ok (.iload_n 2, 1) := by decide +kernel
theorem dX6_weeks_8 : decode cX6_weeks 8 = .ok (.iconst 1, 1) := by decide +kernel
theorem dX6_weeks_9 : decode cX6_weeks 9 = .ok (.sipush 999, 3) := by decide +kernel
theorem dX6_weeks_12 : decode cX6_weeks 12 = .ok (.invokestatic 69, 3) := by decide +kernel
theorem dX6_weeks_15 : decode cX6_weeks 15 = .ok (.ifCond .ne 6, 3) := by decide +kernel
theorem dX6_weeks_18 : decode cX6_weeks 18 = .ok (.bipush (-2), 2) := by decide +kernel
theorem dX6_weeks_20 : decode cX6_weeks 20 = .ok (.ireturn, 1) := by decide +kernel
theorem dX6_weeks_21 : decode cX6_weeks 21 = .ok (.aload_n 0, 1) := by decide +kernel
theorem dX6_weeks_22 : decode cX6_weeks 22 = .ok (.invokevirtual 108, 3) := by decide +kernel
theorem dX6_weeks_25 : decode cX6_weeks 25 = .ok (.astore_n 3, 1) := by decide +kernel
theorem dX6_weeks_26 : decode cX6_weeks 26 = .ok (.iconst 0, 1) := by decide +kernel
theorem dX6_weeks_27 : decode cX6_weeks 27 = .ok (.istore 4, 2) := by decide +kernel
theorem dX6_weeks_29 : decode cX6_weeks 29 = .ok (.iload 4, 2) := by decide +kernel
theorem dX6_weeks_31 : decode cX6_weeks 31 = .ok (.bipush 99, 2) := by decide +kernel
theorem dX6_weeks_33 : decode cX6_weeks 33 = .ok (.if_icmp .gt 25, 3) := by decide +kernel
theorem dX6_weeks_36 : decode cX6_weeks 36 = .ok (.aload_n 3, 1) := by decide +kernel
theorem dX6_weeks_37 : decode cX6_weeks 37 = .ok (.iload_n 1, 1) := by decide +kernel
theorem dX6_weeks_38 : decode cX6_weeks 38 = .ok (.iload 4, 2) := by decide +kernel
theorem dX6_weeks_40 : decode cX6_weeks 40 = .ok (.iload_n 2, 1) := by decide +kernel
theorem dX6_weeks_41 : decode cX6_weeks 41 = .ok (.imul, 1) := by decide +kernel
theorem dX6_weeks_42 : decode cX6_weeks 42 = .ok (.iadd, 1) := by decide +kernel
theorem dX6_weeks_43 : decode cX6_weeks 43 = .ok (.invokevirtual 112, 3) := by decide +kernel
theorem dX6_weeks_46 : decode cX6_weeks 46 = .ok (.ifCond .eq 6, 3) := by decide +kernel
theorem dX6_weeks_49 : decode cX6_weeks 49 = .ok (.iload 4, 2) := by decide +kernel
theorem dX6_weeks_51 : decode cX6_weeks 51 = .ok (.ireturn, 1) := by decide +kernel
theorem dX6_weeks_52 : decode cX6_weeks 52 = .ok (.iinc 4 1, 3) := by decide +kernel
theorem dX6_weeks_55 : decode cX6_weeks 55 = .ok (.goto (-26), 3) := by decide +kernel
theorem dX6_weeks_58 : decode cX6_weeks 58 = .ok (.bipush (-6), 2) := by decide +kernel
theorem dX6_weeks_60 : decode cX6_weeks 60 = .ok (.ireturn, 1) := by decide +kernel
theorem dX6_purse_0 : decode cX6_purse 0 = .ok (.iload_n 1, 1) := by decide +kernel
theorem dX6_purse_1 : decode cX6_purse 1 = .ok (.iconst 0, 1) := by decide +kernel
theorem dX6_purse_2 : decode cX6_purse 2 = .ok (.iconst 3, 1) := by decide +kernel
theorem dX6_purse_3 : decode cX6_purse 3 = .ok (.invokestatic 69, 3) := by decide +kernel
theorem dX6_purse_6 : decode cX6_purse 6 = .ok (.ifCond .ne 5, 3) := by decide +kernel
theorem dX6_purse_9 : decode cX6_purse 9 = .ok (.iconst (-1), 1) := by decide +kernel
theorem dX6_purse_10 : decode cX6_purse 10 = .ok (.ireturn, 1) := by decide +kernel
theorem dX6_purse_11 : decode cX6_purse 11 = .ok (.iload_n 2, 1) := by decide +kernel
theorem dX6_purse_12 : decode cX6_purse 12 = .ok (.iconst (-1), 1) := by decide +kernel
theorem dX6_purse_13 : decode cX6_purse 13 = .ok (.sipush 999, 3) := by decide +kernel
theorem dX6_purse_16 : decode cX6_purse 16 = .ok (.invokestatic 69, 3) := by decide +kernel
theorem dX6_purse_19 : decode cX6_purse 19 = .ok (.ifCond .ne 6, 3) := by decide +kernel
theorem dX6_purse_22 : decode cX6_purse 22 = .ok (.bipush (-2), 2) := by decide +kernel
theorem dX6_purse_24 : decode cX6_purse 24 = .ok (.ireturn, 1) := by decide +kernel
theorem dX6_purse_25 : decode cX6_purse 25 = .ok (.aload_n 0, 1) := by decide +kernel
theorem dX6_purse_26 : decode cX6_purse 26 = .ok (.getfield 12, 3) := by decide +kernel
theorem dX6_purse_29 : decode cX6_purse 29 = .ok (.getfield 150, 3) := by decide +kernel
theorem dX6_purse_32 : decode cX6_purse 32 = .ok (.iload_n 1, 1) := by decide +kernel
theorem dX6_purse_33 : decode cX6_purse 33 = .ok (.iload_n 2, 1) := by decide +kernel
theorem dX6_purse_34 : decode cX6_purse 34 = .ok (.iastore, 1) := by decide +kernel
theorem dX6_purse_35 : decode cX6_purse 35 = .ok (.iconst 1, 1) := by decide +kernel
theorem dX6_purse_36 : decode cX6_purse 36 = .ok (.ireturn, 1) := by decide +kernel
theorem dX6_together_0 : decode cX6_together 0 = .ok (.iload_n 1, 1) := by decide +kernel
theorem dX6_together_1 : decode cX6_together 1 = .ok (.iconst (-1), 1) := by decide +kernel
theorem dX6_together_2 : decode cX6_together 2 = .ok (.if_icmp .eq 16, 3) := by decide +kernel
theorem dX6_together_5 : decode cX6_together 5 = .ok (.aload_n 0, 1) := by decide +kernel
theorem dX6_together_6 : decode cX6_together 6 = .ok (.getfield 12, 3) := by decide +kernel
theorem dX6_together_9 : decode cX6_together 9 = .ok (.iload_n 1, 1) := by decide +kernel
theorem dX6_together_10 : decode cX6_together 10 = .ok (.invokevirtual 154, 3) := by decide +kernel
theorem dX6_together_13 : decode cX6_together 13 = .ok (.ifCond .ne 5, 3) := by decide +kernel
theorem dX6_together_16 : decode cX6_together 16 = .ok (.iconst (-1), 1) := by decide +kernel
theorem dX6_together_17 : decode cX6_together 17 = .ok (.ireturn, 1) := by decide +kernel
theorem dX6_together_18 : decode cX6_together 18 = .ok (.aload_n 0, 1) := by decide +kernel
theorem dX6_together_19 : decode cX6_together 19 = .ok (.getfield 61, 3) := by decide +kernel
theorem dX6_together_22 : decode cX6_together 22 = .ok (.aload_n 0, 1) := by decide +kernel
theorem dX6_together_23 : decode cX6_together 23 = .ok (.getfield 12, 3) := by decide +kernel
theorem dX6_together_26 : decode cX6_together 26 = .ok (.aload_n 0, 1) := by decide +kernel
theorem dX6_together_27 : decode cX6_together 27 = .ok (.invokevirtual 108, 3) := by decide +kernel
theorem dX6_together_30 : decode cX6_together 30 = .ok (.invokevirtual 157, 3) := by decide +kernel
theorem dX6_together_33 : decode cX6_together 33 = .ok (.iload_n 1, 1) := by decide +kernel
theorem dX6_together_34 : decode cX6_together 34 = .ok (.iconst (-1), 1) := by decide +kernel
theorem dX6_together_35 : decode cX6_together 35 = .ok (.if_icmp .ne 13, 3) := by decide +kernel
theorem dX6_together_38 : decode cX6_together 38 = .ok (.aload_n 0, 1) := by decide +kernel
theorem dX6_together_39 : decode cX6_together 39 = .ok (.getfield 61, 3) := by decide +kernel
theorem dX6_together_42 : decode cX6_together 42 = .ok (.invokevirtual 161, 3) := by decide +kernel
theorem dX6_together_45 : decode cX6_together 45 = .ok (.goto 11, 3) := by decide +kernel
theorem dX6_together_48 : decode cX6_together 48 = .ok (.aload_n 0, 1) := by decide +kernel
theorem dX6_together_49 : decode cX6_together 49 = .ok (.getfield 61, 3) := by decide +kernel
theorem dX6_together_52 : decode cX6_together 52 = .ok (.iload_n 1, 1) := by decide +kernel
theorem dX6_together_53 : decode cX6_together 53 = .ok (.invokevirtual 164, 3) := by decide +kernel
theorem dX6_together_56 : decode cX6_together 56 = .ok (.ireturn, 1) := by decide +kernel
theorem dX6_pays_0 : decode cX6_pays 0 = .ok (.aload_n 0, 1) := by decide +kernel
theorem dX6_pays_1 : decode cX6_pays 1 = .ok (.getfield 12, 3) := by decide +kernel
theorem dX6_pays_4 : decode cX6_pays 4 = .ok (.iload_n 1, 1) := by decide +kernel
theorem dX6_pays_5 : decode cX6_pays 5 = .ok (.invokevirtual 154, 3) := by decide +kernel
theorem dX6_pays_8 : decode cX6_pays 8 = .ok (.ifCond .eq 19, 3) := by decide +kernel
theorem dX6_pays_11 : decode cX6_pays 11 = .ok (.aload_n 0, 1) := by decide +kernel
theorem dX6_pays_12 : decode cX6_pays 12 = .ok (.getfield 12, 3) := by decide +kernel
theorem dX6_pays_15 : decode cX6_pays 15 = .ok (.iload_n 2, 1) := by decide +kernel
theorem dX6_pays_16 : decode cX6_pays 16 = .ok (.invokevirtual 154, 3) := by decide +kernel
theorem dX6_pays_19 : decode cX6_pays 19 = .ok (.ifCond .eq 8, 3) := by decide +kernel
theorem dX6_pays_22 : decode cX6_pays 22 = .ok (.iload_n 1, 1) := by decide +kernel
theorem dX6_pays_23 : decode cX6_pays 23 = .ok (.iload_n 2, 1) := by decide +kernel
theorem dX6_pays_24 : decode cX6_pays 24 = .ok (.if_icmp .ne 5, 3) := by decide +kernel
theorem dX6_pays_27 : decode cX6_pays 27 = .ok (.iconst (-1), 1) := by decide +kernel
theorem dX6_pays_28 : decode cX6_pays 28 = .ok (.ireturn, 1) := by decide +kernel
theorem dX6_pays_29 : decode cX6_pays 29 = .ok (.aload_n 0, 1) := by decide +kernel
theorem dX6_pays_30 : decode cX6_pays 30 = .ok (.invokevirtual 108, 3) := by decide +kernel
theorem dX6_pays_33 : decode cX6_pays 33 = .ok (.astore_n 3, 1) := by decide +kernel
theorem dX6_pays_34 : decode cX6_pays 34 = .ok (.aload_n 0, 1) := by decide +kernel
theorem dX6_pays_35 : decode cX6_pays 35 = .ok (.getfield 12, 3) := by decide +kernel
theorem dX6_pays_38 : decode cX6_pays 38 = .ok (.getfield 150, 3) := by decide +kernel
theorem dX6_pays_41 : decode cX6_pays 41 = .ok (.iload_n 1, 1) := by decide +kernel
theorem dX6_pays_42 : decode cX6_pays 42 = .ok (.iaload, 1) := by decide +kernel
theorem dX6_pays_43 : decode cX6_pays 43 = .ok (.istore 4, 2) := by decide +kernel
theorem dX6_pays_45 : decode cX6_pays 45 = .ok (.aload_n 0, 1) := by decide +kernel
theorem dX6_pays_46 : decode cX6_pays 46 = .ok (.getfield 12, 3) := by decide +kernel
theorem dX6_pays_49 : decode cX6_pays 49 = .ok (.getfield 150, 3) := by decide +kernel
theorem dX6_pays_52 : decode cX6_pays 52 = .ok (.iload_n 2, 1) := by decide +kernel
theorem dX6_pays_53 : decode cX6_pays 53 = .ok (.iaload, 1) := by decide +kernel
theorem dX6_pays_54 : decode cX6_pays 54 = .ok (.istore 5, 2) := by decide +kernel
theorem dX6_pays_56 : decode cX6_pays 56 = .ok (.iconst 0, 1) := by decide +kernel
theorem dX6_pays_57 : decode cX6_pays 57 = .ok (.istore 6, 2) := by decide +kernel
theorem dX6_pays_59 : decode cX6_pays 59 = .ok (.iload 6, 2) := by decide +kernel
theorem dX6_pays_61 : decode cX6_pays 61 = .ok (.sipush 999, 3) := by decide +kernel
theorem dX6_pays_64 : decode cX6_pays 64 = .ok (.if_icmp .gt 36, 3) := by decide +kernel
theorem dX6_pays_67 : decode cX6_pays 67 = .ok (.aload_n 3, 1) := by decide +kernel
theorem dX6_pays_68 : decode cX6_pays 68 = .ok (.iload 4, 2) := by decide +kernel
theorem dX6_pays_70 : decode cX6_pays 70 = .ok (.iload 6, 2) := by decide +kernel
theorem dX6_pays_72 : decode cX6_pays 72 = .ok (.isub, 1) := by decide +kernel
theorem dX6_pays_73 : decode cX6_pays 73 = .ok (.invokevirtual 112, 3) := by decide +kernel
theorem dX6_pays_76 : decode cX6_pays 76 = .ok (.ifCond .eq 18, 3) := by decide +kernel
theorem dX6_pays_79 : decode cX6_pays 79 = .ok (.aload_n 3, 1) := by decide +kernel
theorem dX6_pays_80 : decode cX6_pays 80 = .ok (.iload 5, 2) := by decide +kernel
theorem dX6_pays_82 : decode cX6_pays 82 = .ok (.iload 6, 2) := by decide +kernel
theorem dX6_pays_84 : decode cX6_pays 84 = .ok (.iadd, 1) := by decide +kernel
theorem dX6_pays_85 : decode cX6_pays 85 = .ok (.invokevirtual 112, 3) := by decide +kernel
theorem dX6_pays_88 : decode cX6_pays 88 = .ok (.ifCond .eq 6, 3) := by decide +kernel
theorem dX6_pays_91 : decode cX6_pays 91 = .ok (.iload 6, 2) := by decide +kernel
theorem dX6_pays_93 : decode cX6_pays 93 = .ok (.ireturn, 1) := by decide +kernel
theorem dX6_pays_94 : decode cX6_pays 94 = .ok (.iinc 6 1, 3) := by decide +kernel
theorem dX6_pays_97 : decode cX6_pays 97 = .ok (.goto (-38), 3) := by decide +kernel
theorem dX6_pays_100 : decode cX6_pays 100 = .ok (.bipush (-6), 2) := by decide +kernel
theorem dX6_pays_102 : decode cX6_pays 102 = .ok (.ireturn, 1) := by decide +kernel
theorem dX6_wage_0 : decode cX6_wage 0 = .ok (.iload_n 1, 1) := by decide +kernel
theorem dX6_wage_1 : decode cX6_wage 1 = .ok (.iload_n 2, 1) := by decide +kernel
theorem dX6_wage_2 : decode cX6_wage 2 = .ok (.invokestatic 122, 3) := by decide +kernel
theorem dX6_wage_5 : decode cX6_wage 5 = .ok (.ifCond .eq 12, 3) := by decide +kernel
theorem dX6_wage_8 : decode cX6_wage 8 = .ok (.iload_n 3, 1) := by decide +kernel
theorem dX6_wage_9 : decode cX6_wage 9 = .ok (.iconst 0, 1) := by decide +kernel
theorem dX6_wage_10 : decode cX6_wage 10 = .ok (.iconst 1, 1) := by decide +kernel
theorem dX6_wage_11 : decode cX6_wage 11 = .ok (.invokestatic 69, 3) := by decide +kernel
theorem dX6_wage_14 : decode cX6_wage 14 = .ok (.ifCond .ne 6, 3) := by decide +kernel
theorem dX6_wage_17 : decode cX6_wage 17 = .ok (.bipush (-2), 2) := by decide +kernel
theorem dX6_wage_19 : decode cX6_wage 19 = .ok (.ireturn, 1) := by decide +kernel
theorem dX6_wage_20 : decode cX6_wage 20 = .ok (.aload_n 0, 1) := by decide +kernel
theorem dX6_wage_21 : decode cX6_wage 21 = .ok (.invokevirtual 108, 3) := by decide +kernel
theorem dX6_wage_24 : decode cX6_wage 24 = .ok (.astore 4, 2) := by decide +kernel
theorem dX6_wage_26 : decode cX6_wage 26 = .ok (.bipush (-6), 2) := by decide +kernel
theorem dX6_wage_28 : decode cX6_wage 28 = .ok (.istore 5, 2) := by decide +kernel
theorem dX6_wage_30 : decode cX6_wage 30 = .ok (.bipush (-6), 2) := by decide +kernel
theorem dX6_wage_32 : decode cX6_wage 32 = .ok (.istore 6, 2) := by decide +kernel
theorem dX6_wage_34 : decode cX6_wage 34 = .ok (.iload_n 1, 1) := by decide +kernel
theorem dX6_wage_35 : decode cX6_wage 35 = .ok (.istore 7, 2) := by decide +kernel
theorem dX6_wage_37 : decode cX6_wage 37 = .ok (.iload 7, 2) := by decide +kernel
theorem dX6_wage_39 : decode cX6_wage 39 = .ok (.iload_n 2, 1) := by decide +kernel
theorem dX6_wage_40 : decode cX6_wage 40 = .ok (.if_icmp .gt 44, 3) := by decide +kernel
theorem dX6_wage_43 : decode cX6_wage 43 = .ok (.aload 4, 2) := by decide +kernel
theorem dX6_wage_45 : decode cX6_wage 45 = .ok (.iload 7, 2) := by decide +kernel
theorem dX6_wage_47 : decode cX6_wage 47 = .ok (.invokevirtual 112, 3) := by decide +kernel
theorem dX6_wage_50 : decode cX6_wage 50 = .ok (.ifCond .eq 28, 3) := by decide +kernel
theorem dX6_wage_53 : decode cX6_wage 53 = .ok (.aload 4, 2) := by decide +kernel
theorem dX6_wage_55 : decode cX6_wage 55 = .ok (.iload 7, 2) := by decide +kernel
theorem dX6_wage_57 : decode cX6_wage 57 = .ok (.invokevirtual 115, 3) := by decide +kernel
theorem dX6_wage_60 : decode cX6_wage 60 = .ok (.iload 6, 2) := by decide +kernel
theorem dX6_wage_62 : decode cX6_wage 62 = .ok (.if_icmp .le 16, 3) := by decide +kernel
theorem dX6_wage_65 : decode cX6_wage 65 = .ok (.iload 7, 2) := by decide +kernel
theorem dX6_wage_67 : decode cX6_wage 67 = .ok (.istore 5, 2) := by decide +kernel
theorem dX6_wage_69 : decode cX6_wage 69 = .ok (.aload 4, 2) := by decide +kernel
theorem dX6_wage_71 : decode cX6_wage 71 = .ok (.iload 7, 2) := by decide +kernel
theorem dX6_wage_73 : decode cX6_wage 73 = .ok (.invokevirtual 115, 3) := by decide +kernel
theorem dX6_wage_76 : decode cX6_wage 76 = .ok (.istore 6, 2) := by decide +kernel
theorem dX6_wage_78 : decode cX6_wage 78 = .ok (.iinc 7 1, 3) := by decide +kernel
theorem dX6_wage_81 : decode cX6_wage 81 = .ok (.goto (-44), 3) := by decide +kernel
theorem dX6_wage_84 : decode cX6_wage 84 = .ok (.iload_n 3, 1) := by decide +kernel
theorem dX6_wage_85 : decode cX6_wage 85 = .ok (.ifCond .ne 8, 3) := by decide +kernel
theorem dX6_wage_88 : decode cX6_wage 88 = .ok (.iload 5, 2) := by decide +kernel
theorem dX6_wage_90 : decode cX6_wage 90 = .ok (.goto 5, 3) := by decide +kernel
theorem dX6_wage_93 : decode cX6_wage 93 = .ok (.iload 6, 2) := by decide +kernel
theorem dX6_wage_95 : decode cX6_wage 95 = .ok (.ireturn, 1) := by decide +kernel
theorem dX6_priced_0 : decode cX6_priced 0 = .ok (.iload_n 1, 1) := by decide +kernel
theorem dX6_priced_1 : decode cX6_priced 1 = .ok (.invokestatic 65, 3) := by decide +kernel
theorem dX6_priced_4 : decode cX6_priced 4 = .ok (.ifCond .ne 5, 3) := by decide +kernel
theorem dX6_priced_7 : decode cX6_priced 7 = .ok (.iconst (-1), 1) := by decide +kernel
theorem dX6_priced_8 : decode cX6_priced 8 = .ok (.ireturn, 1) := by decide +kernel
theorem dX6_priced_9 : decode cX6_priced 9 = .ok (.iload_n 2, 1) := by decide +kernel
theorem dX6_priced_10 : decode cX6_priced 10 = .ok (.iconst 0, 1) := by decide +kernel
theorem dX6_priced_11 : decode cX6_priced 11 = .ok (.iconst 1, 1) := by decide +kernel
theorem dX6_priced_12 : decode cX6_priced 12 = .ok (.invokestatic 69, 3) := by decide +kernel
theorem dX6_priced_15 : decode cX6_priced 15 = .ok (.ifCond .ne 6, 3) := by decide +kernel
theorem dX6_priced_18 : decode cX6_priced 18 = .ok (.bipush (-2), 2) := by decide +kernel
theorem dX6_priced_20 : decode cX6_priced 20 = .ok (.ireturn, 1) := by decide +kernel
theorem dX6_priced_21 : decode cX6_priced 21 = .ok (.aload_n 0, 1) := by decide +kernel
theorem dX6_priced_22 : decode cX6_priced 22 = .ok (.getfield 38, 3) := by decide +kernel
theorem dX6_priced_25 : decode cX6_priced 25 = .ok (.aload_n 0, 1) := by decide +kernel
theorem dX6_priced_26 : decode cX6_priced 26 = .ok (.getfield 12, 3) := by decide +kernel
theorem dX6_priced_29 : decode cX6_priced 29 = .ok (.bipush 63, 2) := by decide +kernel
theorem dX6_priced_31 : decode cX6_priced 31 = .ok (.iconst 1, 1) := by decide +kernel
theorem dX6_priced_32 : decode cX6_priced 32 = .ok (.iload_n 1, 1) := by decide +kernel
theorem dX6_priced_33 : decode cX6_priced 33 = .ok (.ishl, 1) := by decide +kernel
theorem dX6_priced_34 : decode cX6_priced 34 = .ok (.iconst (-1), 1) := by decide +kernel
theorem dX6_priced_35 : decode cX6_priced 35 = .ok (.ixor, 1) := by decide +kernel
theorem dX6_priced_36 : decode cX6_priced 36 = .ok (.iand, 1) := by decide +kernel
theorem dX6_priced_37 : decode cX6_priced 37 = .ok (.invokevirtual 167, 3) := by decide +kernel
theorem dX6_priced_40 : decode cX6_priced 40 = .ok (.aload_n 0, 1) := by decide +kernel
theorem dX6_priced_41 : decode cX6_priced 41 = .ok (.getfield 38, 3) := by decide +kernel
theorem dX6_priced_44 : decode cX6_priced 44 = .ok (.aload_n 0, 1) := by decide +kernel
theorem dX6_priced_45 : decode cX6_priced 45 = .ok (.getfield 12, 3) := by decide +kernel
theorem dX6_priced_48 : decode cX6_priced 48 = .ok (.iload_n 1, 1) := by decide +kernel
theorem dX6_priced_49 : decode cX6_priced 49 = .ok (.invokevirtual 171, 3) := by decide +kernel
theorem dX6_priced_52 : decode cX6_priced 52 = .ok (.iconst 1, 1) := by decide +kernel
theorem dX6_priced_53 : decode cX6_priced 53 = .ok (.istore_n 3, 1) := by decide +kernel
theorem dX6_priced_54 : decode cX6_priced 54 = .ok (.iconst (-1), 1) := by decide +kernel
theorem dX6_priced_55 : decode cX6_priced 55 = .ok (.istore 4, 2) := by decide +kernel
theorem dX6_priced_57 : decode cX6_priced 57 = .ok (.iconst 1, 1) := by decide +kernel
theorem dX6_priced_58 : decode cX6_priced 58 = .ok (.istore 5, 2) := by decide +kernel
theorem dX6_priced_60 : decode cX6_priced 60 = .ok (.iload 5, 2) := by decide +kernel
theorem dX6_priced_62 : decode cX6_priced 62 = .ok (.bipush 99, 2) := by decide +kernel
theorem dX6_priced_64 : decode cX6_priced 64 = .ok (.if_icmp .gt 40, 3) := by decide +kernel
theorem dX6_priced_67 : decode cX6_priced 67 = .ok (.aload_n 0, 1) := by decide +kernel
theorem dX6_priced_68 : decode cX6_priced 68 = .ok (.iload 5, 2) := by decide +kernel
theorem dX6_priced_70 : decode cX6_priced 70 = .ok (.aload_n 0, 1) := by decide +kernel
theorem dX6_priced_71 : decode cX6_priced 71 = .ok (.getfield 12, 3) := by decide +kernel
theorem dX6_priced_74 : decode cX6_priced 74 = .ok (.getfield 174, 3) := by decide +kernel
theorem dX6_priced_77 : decode cX6_priced 77 = .ok (.iload_n 1, 1) := by decide +kernel
theorem dX6_priced_78 : decode cX6_priced 78 = .ok (.iaload, 1) := by decide +kernel
theorem dX6_priced_79 : decode cX6_priced 79 = .ok (.invokevirtual 177, 3) := by decide +kernel
theorem dX6_priced_82 : decode cX6_priced 82 = .ok (.istore 6, 2) := by decide +kernel
theorem dX6_priced_84 : decode cX6_priced 84 = .ok (.iload 6, 2) := by decide +kernel
theorem dX6_priced_86 : decode cX6_priced 86 = .ok (.iload 4, 2) := by decide +kernel
theorem dX6_priced_88 : decode cX6_priced 88 = .ok (.if_icmp .le 10, 3) := by decide +kernel
theorem dX6_priced_91 : decode cX6_priced 91 = .ok (.iload 5, 2) := by decide +kernel
theorem dX6_priced_93 : decode cX6_priced 93 = .ok (.istore_n 3, 1) := by decide +kernel
theorem dX6_priced_94 : decode cX6_priced 94 = .ok (.iload 6, 2) := by decide +kernel
theorem dX6_priced_96 : decode cX6_priced 96 = .ok (.istore 4, 2) := by decide +kernel
theorem dX6_priced_98 : decode cX6_priced 98 = .ok (.iinc 5 1, 3) := by decide +kernel
theorem dX6_priced_101 : decode cX6_priced 101 = .ok (.goto (-41), 3) := by decide +kernel
theorem dX6_priced_104 : decode cX6_priced 104 = .ok (.iload_n 2, 1) := by decide +kernel
theorem dX6_priced_105 : decode cX6_priced 105 = .ok (.ifCond .ne 7, 3) := by decide +kernel
theorem dX6_priced_108 : decode cX6_priced 108 = .ok (.iload_n 3, 1) := by decide +kernel
theorem dX6_priced_109 : decode cX6_priced 109 = .ok (.goto 5, 3) := by decide +kernel
theorem dX6_priced_112 : decode cX6_priced 112 = .ok (.iload 4, 2) := by decide +kernel
theorem dX6_priced_114 : decode cX6_priced 114 = .ok (.ireturn, 1) := by decide +kernel
theorem dX6_penny_0 : decode cX6_penny 0 = .ok (.iload_n 1, 1) := by decide +kernel
theorem dX6_penny_1 : decode cX6_penny 1 = .ok (.iload_n 2, 1) := by decide +kernel
theorem dX6_penny_2 : decode cX6_penny 2 = .ok (.invokestatic 122, 3) := by decide +kernel
theorem dX6_penny_5 : decode cX6_penny 5 = .ok (.ifCond .eq 17, 3) := by decide +kernel
theorem dX6_penny_8 : decode cX6_penny 8 = .ok (.iload_n 1, 1) := by decide +kernel
theorem dX6_penny_9 : decode cX6_penny 9 = .ok (.iconst 1, 1) := by decide +kernel
theorem dX6_penny_10 : decode cX6_penny 10 = .ok (.if_icmp .lt 12, 3) := by decide +kernel
theorem dX6_penny_13 : decode cX6_penny 13 = .ok (.iload_n 3, 1) := by decide +kernel
theorem dX6_penny_14 : decode cX6_penny 14 = .ok (.iconst 0, 1) := by decide +kernel
theorem dX6_penny_15 : decode cX6_penny 15 = .ok (.iconst 1, 1) := by decide +kernel
theorem dX6_penny_16 : decode cX6_penny 16 = .ok (.invokestatic 69, 3) := by decide +kernel
theorem dX6_penny_19 : decode cX6_penny 19 = .ok (.ifCond .ne 6, 3) := by decide +kernel
theorem dX6_penny_22 : decode cX6_penny 22 = .ok (.bipush (-2), 2) := by decide +kernel
theorem dX6_penny_24 : decode cX6_penny 24 = .ok (.ireturn, 1) := by decide +kernel
theorem dX6_penny_25 : decode cX6_penny 25 = .ok (.aload_n 0, 1) := by decide +kernel
theorem dX6_penny_26 : decode cX6_penny 26 = .ok (.invokevirtual 108, 3) := by decide +kernel
theorem dX6_penny_29 : decode cX6_penny 29 = .ok (.astore 4, 2) := by decide +kernel
theorem dX6_penny_31 : decode cX6_penny 31 = .ok (.bipush (-6), 2) := by decide +kernel
theorem dX6_penny_33 : decode cX6_penny 33 = .ok (.istore 5, 2) := by decide +kernel
theorem dX6_penny_35 : decode cX6_penny 35 = .ok (.iconst 0, 1) := by decide +kernel
theorem dX6_penny_36 : decode cX6_penny 36 = .ok (.istore 6, 2) := by decide +kernel
theorem dX6_penny_38 : decode cX6_penny 38 = .ok (.iload_n 1, 1) := by decide +kernel
theorem dX6_penny_39 : decode cX6_penny 39 = .ok (.istore 7, 2) := by decide +kernel
theorem dX6_penny_41 : decode cX6_penny 41 = .ok (.iload 7, 2) := by decide +kernel
theorem dX6_penny_43 : decode cX6_penny 43 = .ok (.iload_n 2, 1) := by decide +kernel
theorem dX6_penny_44 : decode cX6_penny 44 = .ok (.if_icmp .gt 60, 3) := by decide +kernel
theorem dX6_penny_47 : decode cX6_penny 47 = .ok (.aload 4, 2) := by decide +kernel
theorem dX6_penny_49 : decode cX6_penny 49 = .ok (.iload 7, 2) := by decide +kernel
theorem dX6_penny_51 : decode cX6_penny 51 = .ok (.invokevirtual 115, 3) := by decide +kernel
theorem dX6_penny_54 : decode cX6_penny 54 = .ok (.aload 4, 2) := by decide +kernel
theorem dX6_penny_56 : decode cX6_penny 56 = .ok (.iload 7, 2) := by decide +kernel
theorem dX6_penny_58 : decode cX6_penny 58 = .ok (.iconst 1, 1) := by decide +kernel
theorem dX6_penny_59 : decode cX6_penny 59 = .ok (.isub, 1) := by decide +kernel
theorem dX6_penny_60 : decode cX6_penny 60 = .ok (.invokevirtual 115, 3) := by decide +kernel
theorem dX6_penny_63 : decode cX6_penny 63 = .ok (.isub, 1) := by decide +kernel
theorem dX6_penny_64 : decode cX6_penny 64 = .ok (.istore 8, 2) := by decide +kernel
theorem dX6_penny_66 : decode cX6_penny 66 = .ok (.aload 4, 2) := by decide +kernel
theorem dX6_penny_68 : decode cX6_penny 68 = .ok (.iload 7, 2) := by decide +kernel
theorem dX6_penny_70 : decode cX6_penny 70 = .ok (.invokevirtual 112, 3) := by decide +kernel
theorem dX6_penny_73 : decode cX6_penny 73 = .ok (.ifCond .eq 25, 3) := by decide +kernel
theorem dX6_penny_76 : decode cX6_penny 76 = .ok (.iload 5, 2) := by decide +kernel
theorem dX6_penny_78 : decode cX6_penny 78 = .ok (.bipush (-6), 2) := by decide +kernel
theorem dX6_penny_80 : decode cX6_penny 80 = .ok (.if_icmp .eq 10, 3) := by decide +kernel
theorem dX6_penny_83 : decode cX6_penny 83 = .ok (.iload 8, 2) := by decide +kernel
theorem dX6_penny_85 : decode cX6_penny 85 = .ok (.iload 6, 2) := by decide +kernel
theorem dX6_penny_87 : decode cX6_penny 87 = .ok (.if_icmp .le 11, 3) := by decide +kernel
theorem dX6_penny_90 : decode cX6_penny 90 = .ok (.iload 7, 2) := by decide +kernel
theorem dX6_penny_92 : decode cX6_penny 92 = .ok (.istore 5, 2) := by decide +kernel
theorem dX6_penny_94 : decode cX6_penny 94 = .ok (.iload 8, 2) := by decide +kernel
theorem dX6_penny_96 : decode cX6_penny 96 = .ok (.istore 6, 2) := by decide +kernel
theorem dX6_penny_98 : decode cX6_penny 98 = .ok (.iinc 7 1, 3) := by decide +kernel
theorem dX6_penny_101 : decode cX6_penny 101 = .ok (.goto (-60), 3) := by decide +kernel
theorem dX6_penny_104 : decode cX6_penny 104 = .ok (.iload 5, 2) := by decide +kernel
theorem dX6_penny_106 : decode cX6_penny 106 = .ok (.bipush (-6), 2) := by decide +kernel
theorem dX6_penny_108 : decode cX6_penny 108 = .ok (.if_icmp .ne 6, 3) := by decide +kernel
theorem dX6_penny_111 : decode cX6_penny 111 = .ok (.bipush (-6), 2) := by decide +kernel
theorem dX6_penny_113 : decode cX6_penny 113 = .ok (.ireturn, 1) := by decide +kernel
theorem dX6_penny_114 : decode cX6_penny 114 = .ok (.iload_n 3, 1) := by decide +kernel
theorem dX6_penny_115 : decode cX6_penny 115 = .ok (.ifCond .ne 8, 3) := by decide +kernel
theorem dX6_penny_118 : decode cX6_penny 118 = .ok (.iload 5, 2) := by decide +kernel
theorem dX6_penny_120 : decode cX6_penny 120 = .ok (.goto 9, 3) := by decide +kernel
theorem dX6_penny_123 : decode cX6_penny 123 = .ok (.iload 6, 2) := by decide +kernel
theorem dX6_penny_125 : decode cX6_penny 125 = .ok (.sipush 10000, 3) := by decide +kernel
theorem dX6_penny_128 : decode cX6_penny 128 = .ok (.iadd, 1) := by decide +kernel
theorem dX6_penny_129 : decode cX6_penny 129 = .ok (.ireturn, 1) := by decide +kernel
theorem dX6_seen_0 : decode cX6_seen 0 = .ok (.iload_n 1, 1) := by decide +kernel
theorem dX6_seen_1 : decode cX6_seen 1 = .ok (.invokestatic 65, 3) := by decide +kernel
theorem dX6_seen_4 : decode cX6_seen 4 = .ok (.ifCond .ne 5, 3) := by decide +kernel
theorem dX6_seen_7 : decode cX6_seen 7 = .ok (.iconst (-1), 1) := by decide +kernel
theorem dX6_seen_8 : decode cX6_seen 8 = .ok (.ireturn, 1) := by decide +kernel
theorem dX6_seen_9 : decode cX6_seen 9 = .ok (.iload_n 2, 1) := by decide +kernel
theorem dX6_seen_10 : decode cX6_seen 10 = .ok (.iconst 0, 1) := by decide +kernel
theorem dX6_seen_11 : decode cX6_seen 11 = .ok (.bipush 9, 2) := by decide +kernel
theorem dX6_seen_13 : decode cX6_seen 13 = .ok (.invokestatic 69, 3) := by decide +kernel
theorem dX6_seen_16 : decode cX6_seen 16 = .ok (.ifCond .eq 12, 3) := by decide +kernel
theorem dX6_seen_19 : decode cX6_seen 19 = .ok (.iload_n 3, 1) := by decide +kernel
theorem dX6_seen_20 : decode cX6_seen 20 = .ok (.iconst 0, 1) := by decide +kernel
theorem dX6_seen_21 : decode cX6_seen 21 = .ok (.iconst 1, 1) := by decide +kernel
theorem dX6_seen_22 : decode cX6_seen 22 = .ok (.invokestatic 69, 3) := by decide +kernel
theorem dX6_seen_25 : decode cX6_seen 25 = .ok (.ifCond .ne 6, 3) := by decide +kernel
theorem dX6_seen_28 : decode cX6_seen 28 = .ok (.bipush (-2), 2) := by decide +kernel
theorem dX6_seen_30 : decode cX6_seen 30 = .ok (.ireturn, 1) := by decide +kernel
theorem dX6_seen_31 : decode cX6_seen 31 = .ok (.aload_n 0, 1) := by decide +kernel
theorem dX6_seen_32 : decode cX6_seen 32 = .ok (.getfield 12, 3) := by decide +kernel
theorem dX6_seen_35 : decode cX6_seen 35 = .ok (.iload_n 1, 1) := by decide +kernel
theorem dX6_seen_36 : decode cX6_seen 36 = .ok (.iload_n 2, 1) := by decide +kernel
theorem dX6_seen_37 : decode cX6_seen 37 = .ok (.iload_n 3, 1) := by decide +kernel
theorem dX6_seen_38 : decode cX6_seen 38 = .ok (.invokevirtual 180, 3) := by decide +kernel
theorem dX6_seen_41 : decode cX6_seen 41 = .ok (.ifCond .eq 13, 3) := by decide +kernel
theorem dX6_seen_44 : decode cX6_seen 44 = .ok (.aload_n 0, 1) := by decide +kernel
theorem dX6_seen_45 : decode cX6_seen 45 = .ok (.getfield 12, 3) := by decide +kernel
theorem dX6_seen_48 : decode cX6_seen 48 = .ok (.getfield 183, 3) := by decide +kernel
theorem dX6_seen_51 : decode cX6_seen 51 = .ok (.goto 5, 3) := by decide +kernel
theorem dX6_seen_54 : decode cX6_seen 54 = .ok (.bipush (-4), 2) := by decide +kernel
theorem dX6_seen_56 : decode cX6_seen 56 = .ok (.ireturn, 1) := by decide +kernel
theorem dX6_forget_0 : decode cX6_forget 0 = .ok (.aload_n 0, 1) := by decide +kernel
theorem dX6_forget_1 : decode cX6_forget 1 = .ok (.getfield 12, 3) := by decide +kernel
theorem dX6_forget_4 : decode cX6_forget 4 = .ok (.getfield 183, 3) := by decide +kernel
theorem dX6_forget_7 : decode cX6_forget 7 = .ok (.istore_n 1, 1) := by decide +kernel
theorem dX6_forget_8 : decode cX6_forget 8 = .ok (.aload_n 0, 1) := by decide +kernel
theorem dX6_forget_9 : decode cX6_forget 9 = .ok (.getfield 12, 3) := by decide +kernel
theorem dX6_forget_12 : decode cX6_forget 12 = .ok (.iconst 0, 1) := by decide +kernel
theorem dX6_forget_13 : decode cX6_forget 13 = .ok (.putfield 183, 3) := by decide +kernel
theorem dX6_forget_16 : decode cX6_forget 16 = .ok (.iload_n 1, 1) := by decide +kernel
theorem dX6_forget_17 : decode cX6_forget 17 = .ok (.ireturn, 1) := by decide +kernel
theorem dX6_fits_0 : decode cX6_fits 0 = .ok (.iload_n 1, 1) := by decide +kernel
theorem dX6_fits_1 : decode cX6_fits 1 = .ok (.iload_n 2, 1) := by decide +kernel
theorem dX6_fits_2 : decode cX6_fits 2 = .ok (.invokestatic 122, 3) := by decide +kernel
theorem dX6_fits_5 : decode cX6_fits 5 = .ok (.ifCond .eq 14, 3) := by decide +kernel
theorem dX6_fits_8 : decode cX6_fits 8 = .ok (.aload_n 0, 1) := by decide +kernel
theorem dX6_fits_9 : decode cX6_fits 9 = .ok (.iload_n 1, 1) := by decide +kernel
theorem dX6_fits_10 : decode cX6_fits 10 = .ok (.iload_n 2, 1) := by decide +kernel
theorem dX6_fits_11 : decode cX6_fits 11 = .ok (.iload_n 3, 1) := by decide +kernel
theorem dX6_fits_12 : decode cX6_fits 12 = .ok (.iconst 0, 1) := by decide +kernel
theorem dX6_fits_13 : decode cX6_fits 13 = .ok (.invokevirtual 126, 3) := by decide +kernel
theorem dX6_fits_16 : decode cX6_fits 16 = .ok (.goto 5, 3) := by decide +kernel
theorem dX6_fits_19 : decode cX6_fits 19 = .ok (.bipush (-2), 2) := by decide +kernel
theorem dX6_fits_21 : decode cX6_fits 21 = .ok (.ireturn, 1) := by decide +kernel
theorem dX6_row_0 : decode cX6_row 0 = .ok (.iload_n 1, 1) := by decide +kernel
theorem dX6_row_1 : decode cX6_row 1 = .ok (.invokestatic 97, 3) := by decide +kernel
theorem dX6_row_4 : decode cX6_row 4 = .ok (.ifCond .ne 6, 3) := by decide +kernel
theorem dX6_row_7 : decode cX6_row 7 = .ok (.bipush (-2), 2) := by decide +kernel
theorem dX6_row_9 : decode cX6_row 9 = .ok (.ireturn, 1) := by decide +kernel
theorem dX6_row_10 : decode cX6_row 10 = .ok (.aload_n 0, 1) := by decide +kernel
theorem dX6_row_11 : decode cX6_row 11 = .ok (.getfield 38, 3) := by decide +kernel
theorem dX6_row_14 : decode cX6_row 14 = .ok (.aload_n 0, 1) := by decide +kernel
theorem dX6_row_15 : decode cX6_row 15 = .ok (.getfield 12, 3) := by decide +kernel
theorem dX6_row_18 : decode cX6_row 18 = .ok (.bipush 7, 2) := by decide +kernel
theorem dX6_row_20 : decode cX6_row 20 = .ok (.invokevirtual 167, 3) := by decide +kernel
theorem dX6_row_23 : decode cX6_row 23 = .ok (.aload_n 0, 1) := by decide +kernel
theorem dX6_row_24 : decode cX6_row 24 = .ok (.getfield 41, 3) := by decide +kernel
theorem dX6_row_27 : decode cX6_row 27 = .ok (.aload_n 0, 1) := by decide +kernel
theorem dX6_row_28 : decode cX6_row 28 = .ok (.getfield 12, 3) := by decide +kernel
theorem dX6_row_31 : decode cX6_row 31 = .ok (.bipush 56, 2) := by decide +kernel
theorem dX6_row_33 : decode cX6_row 33 = .ok (.invokevirtual 167, 3) := by decide +kernel
theorem dX6_row_36 : decode cX6_row 36 = .ok (.iconst 0, 1) := by decide +kernel
theorem dX6_row_37 : decode cX6_row 37 = .ok (.istore_n 2, 1) := by decide +kernel
theorem dX6_row_38 : decode cX6_row 38 = .ok (.iconst 0, 1) := by decide +kernel
theorem dX6_row_39 : decode cX6_row 39 = .ok (.istore_n 3, 1) := by decide +kernel
theorem dX6_row_40 : decode cX6_row 40 = .ok (.iload_n 3, 1) := by decide +kernel
theorem dX6_row_41 : decode cX6_row 41 = .ok (.iload_n 1, 1) := by decide +kernel
theorem dX6_row_42 : decode cX6_row 42 = .ok (.if_icmp .gt 36, 3) := by decide +kernel
theorem dX6_row_45 : decode cX6_row 45 = .ok (.aload_n 0, 1) := by decide +kernel
theorem dX6_row_46 : decode cX6_row 46 = .ok (.getfield 38, 3) := by decide +kernel
theorem dX6_row_49 : decode cX6_row 49 = .ok (.iload_n 3, 1) := by decide +kernel
theorem dX6_row_50 : decode cX6_row 50 = .ok (.invokevirtual 112, 3) := by decide +kernel
theorem dX6_row_53 : decode cX6_row 53 = .ok (.ifCond .eq 19, 3) := by decide +kernel
theorem dX6_row_56 : decode cX6_row 56 = .ok (.aload_n 0, 1) := by decide +kernel
theorem dX6_row_57 : decode cX6_row 57 = .ok (.getfield 41, 3) := by decide +kernel
theorem dX6_row_60 : decode cX6_row 60 = .ok (.iload_n 1, 1) := by decide +kernel
theorem dX6_row_61 : decode cX6_row 61 = .ok (.iload_n 3, 1) := by decide +kernel
theorem dX6_row_62 : decode cX6_row 62 = .ok (.isub, 1) := by decide +kernel
theorem dX6_row_63 : decode cX6_row 63 = .ok (.invokevirtual 112, 3) := by decide +kernel
theorem dX6_row_66 : decode cX6_row 66 = .ok (.ifCond .eq 6, 3) := by decide +kernel
theorem dX6_row_69 : decode cX6_row 69 = .ok (.iinc 2 1, 3) := by decide +kernel
theorem dX6_row_72 : decode cX6_row 72 = .ok (.iinc 3 1, 3) := by decide +kernel
theorem dX6_row_75 : decode cX6_row 75 = .ok (.goto (-35), 3) := by decide +kernel
theorem dX6_row_78 : decode cX6_row 78 = .ok (.iload_n 2, 1) := by decide +kernel
theorem dX6_row_79 : decode cX6_row 79 = .ok (.ireturn, 1) := by decide +kernel
theorem dX6_year_0 : decode cX6_year 0 = .ok (.iload_n 1, 1) := by decide +kernel
theorem dX6_year_1 : decode cX6_year 1 = .ok (.iconst 0, 1) := by decide +kernel
theorem dX6_year_2 : decode cX6_year 2 = .ok (.sipush 9999, 3) := by decide +kernel
theorem dX6_year_5 : decode cX6_year 5 = .ok (.invokestatic 69, 3) := by decide +kernel
theorem dX6_year_8 : decode cX6_year 8 = .ok (.ifCond .eq 22, 3) := by decide +kernel
theorem dX6_year_11 : decode cX6_year 11 = .ok (.iload_n 2, 1) := by decide +kernel
theorem dX6_year_12 : decode cX6_year 12 = .ok (.iconst 1, 1) := by decide +kernel
theorem dX6_year_13 : decode cX6_year 13 = .ok (.bipush 99, 2) := by decide +kernel
theorem dX6_year_15 : decode cX6_year 15 = .ok (.invokestatic 69, 3) := by decide +kernel
theorem dX6_year_18 : decode cX6_year 18 = .ok (.ifCond .eq 12, 3) := by decide +kernel
theorem dX6_year_21 : decode cX6_year 21 = .ok (.iload_n 3, 1) := by decide +kernel
theorem dX6_year_22 : decode cX6_year 22 = .ok (.iconst 0, 1) := by decide +kernel
theorem dX6_year_23 : decode cX6_year 23 = .ok (.iconst 1, 1) := by decide +kernel
theorem dX6_year_24 : decode cX6_year 24 = .ok (.invokestatic 69, 3) := by decide +kernel
theorem dX6_year_27 : decode cX6_year 27 = .ok (.ifCond .ne 6, 3) := by decide +kernel
theorem dX6_year_30 : decode cX6_year 30 = .ok (.bipush (-2), 2) := by decide +kernel
theorem dX6_year_32 : decode cX6_year 32 = .ok (.ireturn, 1) := by decide +kernel
theorem dX6_year_33 : decode cX6_year 33 = .ok (.aload_n 0, 1) := by decide +kernel
theorem dX6_year_34 : decode cX6_year 34 = .ok (.invokevirtual 108, 3) := by decide +kernel
theorem dX6_year_37 : decode cX6_year 37 = .ok (.astore 4, 2) := by decide +kernel
theorem dX6_year_39 : decode cX6_year 39 = .ok (.iload_n 1, 1) := by decide +kernel
theorem dX6_year_40 : decode cX6_year 40 = .ok (.istore 5, 2) := by decide +kernel
theorem dX6_year_42 : decode cX6_year 42 = .ok (.iconst 0, 1) := by decide +kernel
theorem dX6_year_43 : decode cX6_year 43 = .ok (.istore 6, 2) := by decide +kernel
theorem dX6_year_45 : decode cX6_year 45 = .ok (.iconst 0, 1) := by decide +kernel
theorem dX6_year_46 : decode cX6_year 46 = .ok (.istore 7, 2) := by decide +kernel
theorem dX6_year_48 : decode cX6_year 48 = .ok (.iconst 0, 1) := by decide +kernel
theorem dX6_year_49 : decode cX6_year 49 = .ok (.istore 8, 2) := by decide +kernel
theorem dX6_year_51 : decode cX6_year 51 = .ok (.iload 8, 2) := by decide +kernel
theorem dX6_year_53 : decode cX6_year 53 = .ok (.iload_n 2, 1) := by decide +kernel
theorem dX6_year_54 : decode cX6_year 54 = .ok (.if_icmp .ge 55, 3) := by decide +kernel
theorem dX6_year_57 : decode cX6_year 57 = .ok (.bipush 75, 2) := by decide +kernel
theorem dX6_year_59 : decode cX6_year 59 = .ok (.iload 5, 2) := by decide +kernel
theorem dX6_year_61 : decode cX6_year 61 = .ok (.imul, 1) := by decide +kernel
theorem dX6_year_62 : decode cX6_year 62 = .ok (.bipush 74, 2) := by decide +kernel
theorem dX6_year_64 : decode cX6_year 64 = .ok (.iadd, 1) := by decide +kernel
theorem dX6_year_65 : decode cX6_year 65 = .ok (.ldc 186, 2) := by decide +kernel
theorem dX6_year_67 : decode cX6_year 67 = .ok (.irem, 1) := by decide +kernel
theorem dX6_year_68 : decode cX6_year 68 = .ok (.istore 5, 2) := by decide +kernel
theorem dX6_year_70 : decode cX6_year 70 = .ok (.iload 5, 2) := by decide +kernel
theorem dX6_year_72 : decode cX6_year 72 = .ok (.sipush 200, 3) := by decide +kernel
theorem dX6_year_75 : decode cX6_year 75 = .ok (.irem, 1) := by decide +kernel
theorem dX6_year_76 : decode cX6_year 76 = .ok (.istore 9, 2) := by decide +kernel
theorem dX6_year_78 : decode cX6_year 78 = .ok (.aload 4, 2) := by decide +kernel
theorem dX6_year_80 : decode cX6_year 80 = .ok (.iload 9, 2) := by decide +kernel
theorem dX6_year_82 : decode cX6_year 82 = .ok (.invokevirtual 112, 3) := by decide +kernel
theorem dX6_year_85 : decode cX6_year 85 = .ok (.ifCond .eq 18, 3) := by decide +kernel
theorem dX6_year_88 : decode cX6_year 88 = .ok (.iinc 6 1, 3) := by decide +kernel
theorem dX6_year_91 : decode cX6_year 91 = .ok (.iload 7, 2) := by decide +kernel
theorem dX6_year_93 : decode cX6_year 93 = .ok (.aload 4, 2) := by decide +kernel
theorem dX6_year_95 : decode cX6_year 95 = .ok (.iload 9, 2) := by decide +kernel
theorem dX6_year_97 : decode cX6_year 97 = .ok (.invokevirtual 115, 3) := by decide +kernel
theorem dX6_year_100 : decode cX6_year 100 = .ok (.iadd, 1) := by decide +kernel
theorem dX6_year_101 : decode cX6_year 101 = .ok (.istore 7, 2) := by decide +kernel
theorem dX6_year_103 : decode cX6_year 103 = .ok (.iinc 8 1, 3) := by decide +kernel
theorem dX6_year_106 : decode cX6_year 106 = .ok (.goto (-55), 3) := by decide +kernel
theorem dX6_year_109 : decode cX6_year 109 = .ok (.iload_n 3, 1) := by decide +kernel
theorem dX6_year_110 : decode cX6_year 110 = .ok (.ifCond .ne 8, 3) := by decide +kernel
theorem dX6_year_113 : decode cX6_year 113 = .ok (.iload 6, 2) := by decide +kernel
theorem dX6_year_115 : decode cX6_year 115 = .ok (.goto 5, 3) := by decide +kernel
theorem dX6_year_118 : decode cX6_year 118 = .ok (.iload 7, 2) := by decide +kernel
theorem dX6_year_120 : decode cX6_year 120 = .ok (.ireturn, 1) := by decide +kernel
theorem dX6_image_0 : decode cX6_image 0 = .ok (.iload_n 1, 1) := by decide +kernel
theorem dX6_image_1 : decode cX6_image 1 = .ok (.invokestatic 187, 3) := by decide +kernel
theorem dX6_image_4 : decode cX6_image 4 = .ok (.ifCond .ne 6, 3) := by decide +kernel
theorem dX6_image_7 : decode cX6_image 7 = .ok (.bipush (-2), 2) := by decide +kernel
theorem dX6_image_9 : decode cX6_image 9 = .ok (.ireturn, 1) := by decide +kernel
theorem dX6_image_10 : decode cX6_image 10 = .ok (.aload_n 0, 1) := by decide +kernel
theorem dX6_image_11 : decode cX6_image 11 = .ok (.getfield 23, 3) := by decide +kernel
theorem dX6_image_14 : decode cX6_image 14 = .ok (.iload_n 1, 1) := by decide +kernel
theorem dX6_image_15 : decode cX6_image 15 = .ok (.aaload, 1) := by decide +kernel
theorem dX6_image_16 : decode cX6_image 16 = .ok (.aload_n 0, 1) := by decide +kernel
theorem dX6_image_17 : decode cX6_image 17 = .ok (.getfield 12, 3) := by decide +kernel
theorem dX6_image_20 : decode cX6_image 20 = .ok (.invokevirtual 190, 3) := by decide +kernel
theorem dX6_image_23 : decode cX6_image 23 = .ok (.aload_n 0, 1) := by decide +kernel
theorem dX6_image_24 : decode cX6_image 24 = .ok (.getfield 27, 3) := by decide +kernel
theorem dX6_image_27 : decode cX6_image 27 = .ok (.iload_n 1, 1) := by decide +kernel
theorem dX6_image_28 : decode cX6_image 28 = .ok (.iconst 1, 1) := by decide +kernel
theorem dX6_image_29 : decode cX6_image 29 = .ok (.bastore, 1) := by decide +kernel
theorem dX6_image_30 : decode cX6_image 30 = .ok (.iconst 1, 1) := by decide +kernel
theorem dX6_image_31 : decode cX6_image 31 = .ok (.ireturn, 1) := by decide +kernel
theorem dX6_restore_0 : decode cX6_restore 0 = .ok (.iload_n 1, 1) := by decide +kernel
theorem dX6_restore_1 : decode cX6_restore 1 = .ok (.invokestatic 187, 3) := by decide +kernel
theorem dX6_restore_4 : decode cX6_restore 4 = .ok (.ifCond .ne 6, 3) := by decide +kernel
theorem dX6_restore_7 : decode cX6_restore 7 = .ok (.bipush (-2), 2) := by decide +kernel
theorem dX6_restore_9 : decode cX6_restore 9 = .ok (.ireturn, 1) := by decide +kernel
theorem dX6_restore_10 : decode cX6_restore 10 = .ok (.aload_n 0, 1) := by decide +kernel
theorem dX6_restore_11 : decode cX6_restore 11 = .ok (.getfield 27, 3) := by decide +kernel
theorem dX6_restore_14 : decode cX6_restore 14 = .ok (.iload_n 1, 1) := by decide +kernel
theorem dX6_restore_15 : decode cX6_restore 15 = .ok (.baload, 1) := by decide +kernel
theorem dX6_restore_16 : decode cX6_restore 16 = .ok (.ifCond .ne 6, 3) := by decide +kernel
theorem dX6_restore_19 : decode cX6_restore 19 = .ok (.bipush (-3), 2) := by decide +kernel
theorem dX6_restore_21 : decode cX6_restore 21 = .ok (.ireturn, 1) := by decide +kernel
theorem dX6_restore_22 : decode cX6_restore 22 = .ok (.aload_n 0, 1) := by decide +kernel
theorem dX6_restore_23 : decode cX6_restore 23 = .ok (.getfield 12, 3) := by decide +kernel
theorem dX6_restore_26 : decode cX6_restore 26 = .ok (.aload_n 0, 1) := by decide +kernel
theorem dX6_restore_27 : decode cX6_restore 27 = .ok (.getfield 23, 3) := by decide +kernel
theorem dX6_restore_30 : decode cX6_restore 30 = .ok (.iload_n 1, 1) := by decide +kernel
theorem dX6_restore_31 : decode cX6_restore 31 = .ok (.aaload, 1) := by decide +kernel
theorem dX6_restore_32 : decode cX6_restore 32 = .ok (.invokevirtual 190, 3) := by decide +kernel
theorem dX6_restore_35 : decode cX6_restore 35 = .ok (.aload_n 0, 1) := by decide +kernel
theorem dX6_restore_36 : decode cX6_restore 36 = .ok (.invokevirtual 77, 3) := by decide +kernel
theorem dX6_restore_39 : decode cX6_restore 39 = .ok (.iconst 1, 1) := by decide +kernel
theorem dX6_restore_40 : decode cX6_restore 40 = .ok (.ireturn, 1) := by decide +kernel
theorem dX6_told_0 : decode cX6_told 0 = .ok (.iload_n 1, 1) := by decide +kernel
theorem dX6_told_1 : decode cX6_told 1 = .ok (.ifCond .ne 11, 3) := by decide +kernel
theorem dX6_told_4 : decode cX6_told 4 = .ok (.aload_n 0, 1) := by decide +kernel
theorem dX6_told_5 : decode cX6_told 5 = .ok (.getfield 19, 3) := by decide +kernel
theorem dX6_told_8 : decode cX6_told 8 = .ok (.getfield 83, 3) := by decide +kernel
theorem dX6_told_11 : decode cX6_told 11 = .ok (.ireturn, 1) := by decide +kernel
theorem dX6_told_12 : decode cX6_told 12 = .ok (.iload_n 1, 1) := by decide +kernel
theorem dX6_told_13 : decode cX6_told 13 = .ok (.iconst 1, 1) := by decide +kernel
theorem dX6_told_14 : decode cX6_told 14 = .ok (.if_icmp .ne 11, 3) := by decide +kernel
theorem dX6_told_17 : decode cX6_told 17 = .ok (.aload_n 0, 1) := by decide +kernel
theorem dX6_told_18 : decode cX6_told 18 = .ok (.getfield 12, 3) := by decide +kernel
theorem dX6_told_21 : decode cX6_told 21 = .ok (.getfield 183, 3) := by decide +kernel
theorem dX6_told_24 : decode cX6_told 24 = .ok (.ireturn, 1) := by decide +kernel
theorem dX6_told_25 : decode cX6_told 25 = .ok (.iload_n 1, 1) := by decide +kernel
theorem dX6_told_26 : decode cX6_told 26 = .ok (.iconst 2, 1) := by decide +kernel
theorem dX6_told_27 : decode cX6_told 27 = .ok (.iconst 5, 1) := by decide +kernel
theorem dX6_told_28 : decode cX6_told 28 = .ok (.invokestatic 69, 3) := by decide +kernel
theorem dX6_told_31 : decode cX6_told 31 = .ok (.ifCond .eq 15, 3) := by decide +kernel
theorem dX6_told_34 : decode cX6_told 34 = .ok (.aload_n 0, 1) := by decide +kernel
theorem dX6_told_35 : decode cX6_told 35 = .ok (.getfield 12, 3) := by decide +kernel
theorem dX6_told_38 : decode cX6_told 38 = .ok (.getfield 150, 3) := by decide +kernel
theorem dX6_told_41 : decode cX6_told 41 = .ok (.iload_n 1, 1) := by decide +kernel
theorem dX6_told_42 : decode cX6_told 42 = .ok (.iconst 2, 1) := by decide +kernel
theorem dX6_told_43 : decode cX6_told 43 = .ok (.isub, 1) := by decide +kernel
theorem dX6_told_44 : decode cX6_told 44 = .ok (.iaload, 1) := by decide +kernel
theorem dX6_told_45 : decode cX6_told 45 = .ok (.ireturn, 1) := by decide +kernel
theorem dX6_told_46 : decode cX6_told 46 = .ok (.iload_n 1, 1) := by decide +kernel
theorem dX6_told_47 : decode cX6_told 47 = .ok (.bipush 10, 2) := by decide +kernel
theorem dX6_told_49 : decode cX6_told 49 = .ok (.bipush 63, 2) := by decide +kernel
theorem dX6_told_51 : decode cX6_told 51 = .ok (.invokestatic 69, 3) := by decide +kernel
theorem dX6_told_54 : decode cX6_told 54 = .ok (.ifCond .eq 11, 3) := by decide +kernel
theorem dX6_told_57 : decode cX6_told 57 = .ok (.iload_n 1, 1) := by decide +kernel
theorem dX6_told_58 : decode cX6_told 58 = .ok (.bipush 10, 2) := by decide +kernel
theorem dX6_told_60 : decode cX6_told 60 = .ok (.irem, 1) := by decide +kernel
theorem dX6_told_61 : decode cX6_told 61 = .ok (.iconst 3, 1) := by decide +kernel
theorem dX6_told_62 : decode cX6_told 62 = .ok (.if_icmp .le 6, 3) := by decide +kernel
theorem dX6_told_65 : decode cX6_told 65 = .ok (.bipush (-2), 2) := by decide +kernel
theorem dX6_told_67 : decode cX6_told 67 = .ok (.ireturn, 1) := by decide +kernel
theorem dX6_told_68 : decode cX6_told 68 = .ok (.aload_n 0, 1) := by decide +kernel
theorem dX6_told_69 : decode cX6_told 69 = .ok (.getfield 12, 3) := by decide +kernel
theorem dX6_told_72 : decode cX6_told 72 = .ok (.iload_n 1, 1) := by decide +kernel
theorem dX6_told_73 : decode cX6_told 73 = .ok (.bipush 10, 2) := by decide +kernel
theorem dX6_told_75 : decode cX6_told 75 = .ok (.idiv, 1) := by decide +kernel
theorem dX6_told_76 : decode cX6_told 76 = .ok (.iconst 1, 1) := by decide +kernel
theorem dX6_told_77 : decode cX6_told 77 = .ok (.isub, 1) := by decide +kernel
theorem dX6_told_78 : decode cX6_told 78 = .ok (.iload_n 1, 1) := by decide +kernel
theorem dX6_told_79 : decode cX6_told 79 = .ok (.bipush 10, 2) := by decide +kernel
theorem dX6_told_81 : decode cX6_told 81 = .ok (.irem, 1) := by decide +kernel
theorem dX6_told_82 : decode cX6_told 82 = .ok (.invokevirtual 193, 3) := by decide +kernel
theorem dX6_told_85 : decode cX6_told 85 = .ok (.ireturn, 1) := by decide +kernel
theorem dX6_within_0 : decode cX6_within 0 = .ok (.iload_n 0, 1) := by decide +kernel
theorem dX6_within_1 : decode cX6_within 1 = .ok (.iload_n 1, 1) := by decide +kernel
theorem dX6_within_2 : decode cX6_within 2 = .ok (.if_icmp .lt 12, 3) := by decide +kernel
theorem dX6_within_5 : decode cX6_within 5 = .ok (.iload_n 0, 1) := by decide +kernel
theorem dX6_within_6 : decode cX6_within 6 = .ok (.iload_n 2, 1) := by decide +kernel
theorem dX6_within_7 : decode cX6_within 7 = .ok (.if_icmp .gt 7, 3) := by decide +kernel
theorem dX6_within_10 : decode cX6_within 10 = .ok (.iconst 1, 1) := by decide +kernel
theorem dX6_within_11 : decode cX6_within 11 = .ok (.goto 4, 3) := by decide +kernel
theorem dX6_within_14 : decode cX6_within 14 = .ok (.iconst 0, 1) := by decide +kernel
theorem dX6_within_15 : decode cX6_within 15 = .ok (.ireturn, 1) := by decide +kernel
theorem dX6_isThing_0 : decode cX6_isThing 0 = .ok (.iload_n 0, 1) := by decide +kernel
theorem dX6_isThing_1 : decode cX6_isThing 1 = .ok (.iconst 0, 1) := by decide +kernel
theorem dX6_isThing_2 : decode cX6_isThing 2 = .ok (.iconst 5, 1) := by decide +kernel
theorem dX6_isThing_3 : decode cX6_isThing 3 = .ok (.invokestatic 69, 3) := by decide +kernel
theorem dX6_isThing_6 : decode cX6_isThing 6 = .ok (.ireturn, 1) := by decide +kernel
theorem dX6_isSum_0 : decode cX6_isSum 0 = .ok (.iload_n 0, 1) := by decide +kernel
theorem dX6_isSum_1 : decode cX6_isSum 1 = .ok (.iconst 0, 1) := by decide +kernel
theorem dX6_isSum_2 : decode cX6_isSum 2 = .ok (.sipush 999, 3) := by decide +kernel
theorem dX6_isSum_5 : decode cX6_isSum 5 = .ok (.invokestatic 69, 3) := by decide +kernel
theorem dX6_isSum_8 : decode cX6_isSum 8 = .ok (.ireturn, 1) := by decide +kernel
theorem dX6_isSpan_0 : decode cX6_isSpan 0 = .ok (.iload_n 0, 1) := by decide +kernel
theorem dX6_isSpan_1 : decode cX6_isSpan 1 = .ok (.invokestatic 97, 3) := by decide +kernel
theorem dX6_isSpan_4 : decode cX6_isSpan 4 = .ok (.ifCond .eq 19, 3) := by decide +kernel
theorem dX6_isSpan_7 : decode cX6_isSpan 7 = .ok (.iload_n 1, 1) := by decide +kernel
theorem dX6_isSpan_8 : decode cX6_isSpan 8 = .ok (.invokestatic 97, 3) := by decide +kernel
theorem dX6_isSpan_11 : decode cX6_isSpan 11 = .ok (.ifCond .eq 12, 3) := by decide +kernel
theorem dX6_isSpan_14 : decode cX6_isSpan 14 = .ok (.iload_n 0, 1) := by decide +kernel
theorem dX6_isSpan_15 : decode cX6_isSpan 15 = .ok (.iload_n 1, 1) := by decide +kernel
theorem dX6_isSpan_16 : decode cX6_isSpan 16 = .ok (.if_icmp .gt 7, 3) := by decide +kernel
theorem dX6_isSpan_19 : decode cX6_isSpan 19 = .ok (.iconst 1, 1) := by decide +kernel
theorem dX6_isSpan_20 : decode cX6_isSpan 20 = .ok (.goto 4, 3) := by decide +kernel
theorem dX6_isSpan_23 : decode cX6_isSpan 23 = .ok (.iconst 0, 1) := by decide +kernel
theorem dX6_isSpan_24 : decode cX6_isSpan 24 = .ok (.ireturn, 1) := by decide +kernel
theorem dX6_isImage_0 : decode cX6_isImage 0 = .ok (.iload_n 0, 1) := by decide +kernel
theorem dX6_isImage_1 : decode cX6_isImage 1 = .ok (.iconst 0, 1) := by decide +kernel
theorem dX6_isImage_2 : decode cX6_isImage 2 = .ok (.iconst 1, 1) := by decide +kernel
theorem dX6_isImage_3 : decode cX6_isImage 3 = .ok (.invokestatic 69, 3) := by decide +kernel
theorem dX6_isImage_6 : decode cX6_isImage 6 = .ok (.ireturn, 1) := by decide +kernel
theorem dX6_forgetShelves_0 : decode cX6_forgetShelves 0 = .ok (.aload_n 0, 1) := by decide +kernel
theorem dX6_forgetShelves_1 : decode cX6_forgetShelves 1 = .ok (.getfield 34, 3) := by decide +kernel
theorem dX6_forgetShelves_4 : decode cX6_forgetShelves 4 = .ok (.invokevirtual 196, 3) := by decide +kernel
theorem dX6_forgetShelves_7 : decode cX6_forgetShelves 7 = .ok (.aload_n 0, 1) := by decide +kernel
theorem dX6_forgetShelves_8 : decode cX6_forgetShelves 8 = .ok (.getfield 38, 3) := by decide +kernel
theorem dX6_forgetShelves_11 : decode cX6_forgetShelves 11 = .ok (.invokevirtual 196, 3) := by decide +kernel
theorem dX6_forgetShelves_14 : decode cX6_forgetShelves 14 = .ok (.aload_n 0, 1) := by decide +kernel
theorem dX6_forgetShelves_15 : decode cX6_forgetShelves 15 = .ok (.getfield 41, 3) := by decide +kernel
theorem dX6_forgetShelves_18 : decode cX6_forgetShelves 18 = .ok (.invokevirtual 196, 3) := by decide +kernel
theorem dX6_forgetShelves_21 : decode cX6_forgetShelves 21 = .ok (.aload_n 0, 1) := by decide +kernel
theorem dX6_forgetShelves_22 : decode cX6_forgetShelves 22 = .ok (.getfield 47, 3) := by decide +kernel
theorem dX6_forgetShelves_25 : decode cX6_forgetShelves 25 = .ok (.invokevirtual 199, 3) := by decide +kernel
theorem dX6_forgetShelves_28 : decode cX6_forgetShelves 28 = .ok (.return_, 1) := by decide +kernel
theorem dX6_market_0 : decode cX6_market 0 = .ok (.aload_n 0, 1) := by decide +kernel
theorem dX6_market_1 : decode cX6_market 1 = .ok (.getfield 34, 3) := by decide +kernel
theorem dX6_market_4 : decode cX6_market 4 = .ok (.aload_n 0, 1) := by decide +kernel
theorem dX6_market_5 : decode cX6_market 5 = .ok (.getfield 12, 3) := by decide +kernel
theorem dX6_market_8 : decode cX6_market 8 = .ok (.bipush 63, 2) := by decide +kernel
theorem dX6_market_10 : decode cX6_market 10 = .ok (.invokevirtual 167, 3) := by decide +kernel
theorem dX6_market_13 : decode cX6_market 13 = .ok (.aload_n 0, 1) := by decide +kernel
theorem dX6_market_14 : decode cX6_market 14 = .ok (.getfield 34, 3) := by decide +kernel
theorem dX6_market_17 : decode cX6_market 17 = .ok (.areturn, 1) := by decide +kernel
theorem dX6_pick_0 : decode cX6_pick 0 = .ok (.aload_n 0, 1) := by decide +kernel
theorem dX6_pick_1 : decode cX6_pick 1 = .ok (.invokevirtual 108, 3) := by decide +kernel
theorem dX6_pick_4 : decode cX6_pick 4 = .ok (.astore 5, 2) := by decide +kernel
theorem dX6_pick_6 : decode cX6_pick 6 = .ok (.iconst 0, 1) := by decide +kernel
theorem dX6_pick_7 : decode cX6_pick 7 = .ok (.istore 6, 2) := by decide +kernel
theorem dX6_pick_9 : decode cX6_pick 9 = .ok (.iload_n 1, 1) := by decide +kernel
theorem dX6_pick_10 : decode cX6_pick 10 = .ok (.istore 7, 2) := by decide +kernel
theorem dX6_pick_12 : decode cX6_pick 12 = .ok (.iload 7, 2) := by decide +kernel
theorem dX6_pick_14 : decode cX6_pick 14 = .ok (.iload_n 2, 1) := by decide +kernel
theorem dX6_pick_15 : decode cX6_pick 15 = .ok (.if_icmp .gt 64, 3) := by decide +kernel
theorem dX6_pick_18 : decode cX6_pick 18 = .ok (.iload 4, 2) := by decide +kernel
theorem dX6_pick_20 : decode cX6_pick 20 = .ok (.ifCond .eq 21, 3) := by decide +kernel
theorem dX6_pick_23 : decode cX6_pick 23 = .ok (.aload 5, 2) := by decide +kernel
theorem dX6_pick_25 : decode cX6_pick 25 = .ok (.iload 7, 2) := by decide +kernel
theorem dX6_pick_27 : decode cX6_pick 27 = .ok (.invokevirtual 112, 3) := by decide +kernel
theorem dX6_pick_30 : decode cX6_pick 30 = .ok (.ifCond .ne 7, 3) := by decide +kernel
theorem dX6_pick_33 : decode cX6_pick 33 = .ok (.iconst 1, 1) := by decide +kernel
theorem dX6_pick_34 : decode cX6_pick 34 = .ok (.goto 15, 3) := by decide +kernel
theorem dX6_pick_37 : decode cX6_pick 37 = .ok (.iconst 0, 1) := by decide +kernel
theorem dX6_pick_38 : decode cX6_pick 38 = .ok (.goto 11, 3) := by decide +kernel
theorem dX6_pick_41 : decode cX6_pick 41 = .ok (.aload_n 0, 1) := by decide +kernel
theorem dX6_pick_42 : decode cX6_pick 42 = .ok (.aload 5, 2) := by decide +kernel
theorem dX6_pick_44 : decode cX6_pick 44 = .ok (.iload 7, 2) := by decide +kernel
theorem dX6_pick_46 : decode cX6_pick 46 = .ok (.invokevirtual 200, 3) := by decide +kernel
theorem dX6_pick_49 : decode cX6_pick 49 = .ok (.istore 8, 2) := by decide +kernel
theorem dX6_pick_51 : decode cX6_pick 51 = .ok (.iload 8, 2) := by decide +kernel
theorem dX6_pick_53 : decode cX6_pick 53 = .ok (.ifCond .eq 12, 3) := by decide +kernel
theorem dX6_pick_56 : decode cX6_pick 56 = .ok (.iload 6, 2) := by decide +kernel
theorem dX6_pick_58 : decode cX6_pick 58 = .ok (.iload_n 3, 1) := by decide +kernel
theorem dX6_pick_59 : decode cX6_pick 59 = .ok (.if_icmp .ne 6, 3) := by decide +kernel
theorem dX6_pick_62 : decode cX6_pick 62 = .ok (.iload 7, 2) := by decide +kernel
theorem dX6_pick_64 : decode cX6_pick 64 = .ok (.ireturn, 1) := by decide +kernel
theorem dX6_pick_65 : decode cX6_pick 65 = .ok (.iload 8, 2) := by decide +kernel
theorem dX6_pick_67 : decode cX6_pick 67 = .ok (.ifCond .eq 6, 3) := by decide +kernel
theorem dX6_pick_70 : decode cX6_pick 70 = .ok (.iinc 6 1, 3) := by decide +kernel
theorem dX6_pick_73 : decode cX6_pick 73 = .ok (.iinc 7 1, 3) := by decide +kernel
theorem dX6_pick_76 : decode cX6_pick 76 = .ok (.goto (-64), 3) := by decide +kernel
theorem dX6_pick_79 : decode cX6_pick 79 = .ok (.iload_n 3, 1) := by decide +kernel
theorem dX6_pick_80 : decode cX6_pick 80 = .ok (.iconst (-1), 1) := by decide +kernel
theorem dX6_pick_81 : decode cX6_pick 81 = .ok (.if_icmp .ne 8, 3) := by decide +kernel
theorem dX6_pick_84 : decode cX6_pick 84 = .ok (.iload 6, 2) := by decide +kernel
theorem dX6_pick_86 : decode cX6_pick 86 = .ok (.goto 5, 3) := by decide +kernel
theorem dX6_pick_89 : decode cX6_pick 89 = .ok (.bipush (-6), 2) := by decide +kernel
theorem dX6_pick_91 : decode cX6_pick 91 = .ok (.ireturn, 1) := by decide +kernel
theorem dX6_fitsSights_0 : decode cX6_fitsSights 0 = .ok (.aload_n 1, 1) := by decide +kernel
theorem dX6_fitsSights_1 : decode cX6_fitsSights 1 = .ok (.iload_n 2, 1) := by decide +kernel
theorem dX6_fitsSights_2 : decode cX6_fitsSights 2 = .ok (.invokevirtual 112, 3) := by decide +kernel
theorem dX6_fitsSights_5 : decode cX6_fitsSights 5 = .ok (.ifCond .ne 5, 3) := by decide +kernel
theorem dX6_fitsSights_8 : decode cX6_fitsSights 8 = .ok (.iconst 0, 1) := by decide +kernel
theorem dX6_fitsSights_9 : decode cX6_fitsSights 9 = .ok (.ireturn, 1) := by decide +kernel
theorem dX6_fitsSights_10 : decode cX6_fitsSights 10 = .ok (.iconst 0, 1) := by decide +kernel
theorem dX6_fitsSights_11 : decode cX6_fitsSights 11 = .ok (.istore_n 3, 1) := by decide +kernel
theorem dX6_fitsSights_12 : decode cX6_fitsSights 12 = .ok (.iload_n 3, 1) := by decide +kernel
theorem dX6_fitsSights_13 : decode cX6_fitsSights 13 = .ok (.aload_n 0, 1) := by decide +kernel
theorem dX6_fitsSights_14 : decode cX6_fitsSights 14 = .ok (.getfield 12, 3) := by decide +kernel
theorem dX6_fitsSights_17 : decode cX6_fitsSights 17 = .ok (.getfield 183, 3) := by decide +kernel
theorem dX6_fitsSights_20 : decode cX6_fitsSights 20 = .ok (.if_icmp .ge 24, 3) := by decide +kernel
theorem dX6_fitsSights_23 : decode cX6_fitsSights 23 = .ok (.aload_n 0, 1) := by decide +kernel
theorem dX6_fitsSights_24 : decode cX6_fitsSights 24 = .ok (.getfield 12, 3) := by decide +kernel
theorem dX6_fitsSights_27 : decode cX6_fitsSights 27 = .ok (.iload_n 3, 1) := by decide +kernel
theorem dX6_fitsSights_28 : decode cX6_fitsSights 28 = .ok (.aload_n 1, 1) := by decide +kernel
theorem dX6_fitsSights_29 : decode cX6_fitsSights 29 = .ok (.iload_n 2, 1) := by decide +kernel
theorem dX6_fitsSights_30 : decode cX6_fitsSights 30 = .ok (.invokevirtual 204, 3) := by decide +kernel
theorem dX6_fitsSights_33 : decode cX6_fitsSights 33 = .ok (.ifCond .ne 5, 3) := by decide +kernel
theorem dX6_fitsSights_36 : decode cX6_fitsSights 36 = .ok (.iconst 0, 1) := by decide +kernel
theorem dX6_fitsSights_37 : decode cX6_fitsSights 37 = .ok (.ireturn, 1) := by decide +kernel
theorem dX6_fitsSights_38 : decode cX6_fitsSights 38 = .ok (.iinc 3 1, 3) := by decide +kernel
theorem dX6_fitsSights_41 : decode cX6_fitsSights 41 = .ok (.goto (-29), 3) := by decide +kernel
theorem dX6_fitsSights_44 : decode cX6_fitsSights 44 = .ok (.iconst 1, 1) := by decide +kernel
theorem dX6_fitsSights_45 : decode cX6_fitsSights 45 = .ok (.ireturn, 1) := by decide +kernel
theorem dX6_nearestBelow_0 : decode cX6_nearestBelow 0 = .ok (.aload_n 0, 1) := by decide +kernel
theorem dX6_nearestBelow_1 : decode cX6_nearestBelow 1 = .ok (.invokevirtual 108, 3) := by decide +kernel
theorem dX6_nearestBelow_4 : decode cX6_nearestBelow 4 = .ok (.astore_n 2, 1) := by decide +kernel
theorem dX6_nearestBelow_5 : decode cX6_nearestBelow 5 = .ok (.iload_n 1, 1) := by decide +kernel
theorem dX6_nearestBelow_6 : decode cX6_nearestBelow 6 = .ok (.istore_n 3, 1) := by decide +kernel
theorem dX6_nearestBelow_7 : decode cX6_nearestBelow 7 = .ok (.iload_n 3, 1) := by decide +kernel
theorem dX6_nearestBelow_8 : decode cX6_nearestBelow 8 = .ok (.ifCond .le 19, 3) := by decide +kernel
theorem dX6_nearestBelow_11 : decode cX6_nearestBelow 11 = .ok (.aload_n 2, 1) := by decide +kernel
theorem dX6_nearestBelow_12 : decode cX6_nearestBelow 12 = .ok (.iload_n 3, 1) := by decide +kernel
theorem dX6_nearestBelow_13 : decode cX6_nearestBelow 13 = .ok (.invokevirtual 112, 3) := by decide +kernel
theorem dX6_nearestBelow_16 : decode cX6_nearestBelow 16 = .ok (.ifCond .eq 5, 3) := by decide +kernel
theorem dX6_nearestBelow_19 : decode cX6_nearestBelow 19 = .ok (.iload_n 3, 1) := by decide +kernel
theorem dX6_nearestBelow_20 : decode cX6_nearestBelow 20 = .ok (.ireturn, 1) := by decide +kernel
theorem dX6_nearestBelow_21 : decode cX6_nearestBelow 21 = .ok (.iinc 3 (-1), 3) := by decide +kernel
theorem dX6_nearestBelow_24 : decode cX6_nearestBelow 24 = .ok (.goto (-17), 3) := by decide +kernel
theorem dX6_nearestBelow_27 : decode cX6_nearestBelow 27 = .ok (.iconst 0, 1) := by decide +kernel
theorem dX6_nearestBelow_28 : decode cX6_nearestBelow 28 = .ok (.ireturn, 1) := by decide +kernel
theorem dX6_nearestAbove_0 : decode cX6_nearestAbove 0 = .ok (.aload_n 0, 1) := by decide +kernel
theorem dX6_nearestAbove_1 : decode cX6_nearestAbove 1 = .ok (.invokevirtual 108, 3) := by decide +kernel
theorem dX6_nearestAbove_4 : decode cX6_nearestAbove 4 = .ok (.astore_n 2, 1) := by decide +kernel
theorem dX6_nearestAbove_5 : decode cX6_nearestAbove 5 = .ok (.iload_n 1, 1) := by decide +kernel
theorem dX6_nearestAbove_6 : decode cX6_nearestAbove 6 = .ok (.istore_n 3, 1) := by decide +kernel
theorem dX6_nearestAbove_7 : decode cX6_nearestAbove 7 = .ok (.iload_n 3, 1) := by decide +kernel
theorem dX6_nearestAbove_8 : decode cX6_nearestAbove 8 = .ok (.sipush 999, 3) := by decide +kernel
theorem dX6_nearestAbove_11 : decode cX6_nearestAbove 11 = .ok (.if_icmp .gt 19, 3) := by decide +kernel
theorem dX6_nearestAbove_14 : decode cX6_nearestAbove 14 = .ok (.aload_n 2, 1) := by decide +kernel
theorem dX6_nearestAbove_15 : decode cX6_nearestAbove 15 = .ok (.iload_n 3, 1) := by decide +kernel
theorem dX6_nearestAbove_16 : decode cX6_nearestAbove 16 = .ok (.invokevirtual 112, 3) := by decide +kernel
theorem dX6_nearestAbove_19 : decode cX6_nearestAbove 19 = .ok (.ifCond .eq 5, 3) := by decide +kernel
theorem dX6_nearestAbove_22 : decode cX6_nearestAbove 22 = .ok (.iload_n 3, 1) := by decide +kernel
theorem dX6_nearestAbove_23 : decode cX6_nearestAbove 23 = .ok (.ireturn, 1) := by decide +kernel
theorem dX6_nearestAbove_24 : decode cX6_nearestAbove 24 = .ok (.iinc 3 1, 3) := by decide +kernel
theorem dX6_nearestAbove_27 : decode cX6_nearestAbove 27 = .ok (.goto (-20), 3) := by decide +kernel
theorem dX6_nearestAbove_30 : decode cX6_nearestAbove 30 = .ok (.bipush (-6), 2) := by decide +kernel
theorem dX6_nearestAbove_32 : decode cX6_nearestAbove 32 = .ok (.ireturn, 1) := by decide +kernel
theorem dX6_boughtAt_0 : decode cX6_boughtAt 0 = .ok (.iconst 0, 1) := by decide +kernel
theorem dX6_boughtAt_1 : decode cX6_boughtAt 1 = .ok (.istore_n 3, 1) := by decide +kernel
theorem dX6_boughtAt_2 : decode cX6_boughtAt 2 = .ok (.iconst 0, 1) := by decide +kernel
theorem dX6_boughtAt_3 : decode cX6_boughtAt 3 = .ok (.istore 4, 2) := by decide +kernel
theorem dX6_boughtAt_5 : decode cX6_boughtAt 5 = .ok (.iload 4, 2) := by decide +kernel
theorem dX6_boughtAt_7 : decode cX6_boughtAt 7 = .ok (.iconst 4, 1) := by decide +kernel
theorem dX6_boughtAt_8 : decode cX6_boughtAt 8 = .ok (.if_icmp .ge 43, 3) := by decide +kernel
theorem dX6_boughtAt_11 : decode cX6_boughtAt 11 = .ok (.aload_n 0, 1) := by decide +kernel
theorem dX6_boughtAt_12 : decode cX6_boughtAt 12 = .ok (.getfield 12, 3) := by decide +kernel
theorem dX6_boughtAt_15 : decode cX6_boughtAt 15 = .ok (.iload 4, 2) := by decide +kernel
theorem dX6_boughtAt_17 : decode cX6_boughtAt 17 = .ok (.invokevirtual 154, 3) := by decide +kernel
theorem dX6_boughtAt_20 : decode cX6_boughtAt 20 = .ok (.ifCond .eq 25, 3) := by decide +kernel
theorem dX6_boughtAt_23 : decode cX6_boughtAt 23 = .ok (.iload_n 3, 1) := by decide +kernel
theorem dX6_boughtAt_24 : decode cX6_boughtAt 24 = .ok (.aload_n 0, 1) := by decide +kernel
theorem dX6_boughtAt_25 : decode cX6_boughtAt 25 = .ok (.getfield 38, 3) := by decide +kernel
theorem dX6_boughtAt_28 : decode cX6_boughtAt 28 = .ok (.aload_n 0, 1) := by decide +kernel
theorem dX6_boughtAt_29 : decode cX6_boughtAt 29 = .ok (.getfield 12, 3) := by decide +kernel
theorem dX6_boughtAt_32 : decode cX6_boughtAt 32 = .ok (.getfield 150, 3) := by decide +kernel
theorem dX6_boughtAt_35 : decode cX6_boughtAt 35 = .ok (.iload 4, 2) := by decide +kernel
theorem dX6_boughtAt_37 : decode cX6_boughtAt 37 = .ok (.iaload, 1) := by decide +kernel
theorem dX6_boughtAt_38 : decode cX6_boughtAt 38 = .ok (.iload_n 1, 1) := by decide +kernel
theorem dX6_boughtAt_39 : decode cX6_boughtAt 39 = .ok (.iload_n 2, 1) := by decide +kernel
theorem dX6_boughtAt_40 : decode cX6_boughtAt 40 = .ok (.invokevirtual 208, 3) := by decide +kernel
theorem dX6_boughtAt_43 : decode cX6_boughtAt 43 = .ok (.iadd, 1) := by decide +kernel
theorem dX6_boughtAt_44 : decode cX6_boughtAt 44 = .ok (.istore_n 3, 1) := by decide +kernel
theorem dX6_boughtAt_45 : decode cX6_boughtAt 45 = .ok (.iinc 4 1, 3) := by decide +kernel
theorem dX6_boughtAt_48 : decode cX6_boughtAt 48 = .ok (.goto (-43), 3) := by decide +kernel
theorem dX6_boughtAt_51 : decode cX6_boughtAt 51 = .ok (.iload_n 3, 1) := by decide +kernel
theorem dX6_boughtAt_52 : decode cX6_boughtAt 52 = .ok (.ireturn, 1) := by decide +kernel
theorem dX7_init_0 : decode cX7_init 0 = .ok (.aload_n 0, 1) := by decide +kernel
theorem dX7_init_1 : decode cX7_init 1 = .ok (.invokespecial 1, 3) := by decide +kernel
theorem dX7_init_4 : decode cX7_init 4 = .ok (.aload_n 0, 1) := by decide +kernel
theorem dX7_init_5 : decode cX7_init 5 = .ok (.bipush 6, 2) := by decide +kernel
theorem dX7_init_7 : decode cX7_init 7 = .ok (.newarray .int, 2) := by decide +kernel
theorem dX7_init_9 : decode cX7_init 9 = .ok (.putfield 7, 3) := by decide +kernel
theorem dX7_init_12 : decode cX7_init 12 = .ok (.aload_n 0, 1) := by decide +kernel
theorem dX7_init_13 : decode cX7_init 13 = .ok (.bipush 6, 2) := by decide +kernel
theorem dX7_init_15 : decode cX7_init 15 = .ok (.newarray .int, 2) := by decide +kernel
theorem dX7_init_17 : decode cX7_init 17 = .ok (.putfield 13, 3) := by decide +kernel
theorem dX7_init_20 : decode cX7_init 20 = .ok (.aload_n 0, 1) := by decide +kernel
theorem dX7_init_21 : decode cX7_init 21 = .ok (.bipush 6, 2) := by decide +kernel
theorem dX7_init_23 : decode cX7_init 23 = .ok (.newarray .int, 2) := by decide +kernel
theorem dX7_init_25 : decode cX7_init 25 = .ok (.putfield 16, 3) := by decide +kernel
theorem dX7_init_28 : decode cX7_init 28 = .ok (.aload_n 0, 1) := by decide +kernel
theorem dX7_init_29 : decode cX7_init 29 = .ok (.bipush 6, 2) := by decide +kernel
theorem dX7_init_31 : decode cX7_init 31 = .ok (.newarray .int, 2) := by decide +kernel
theorem dX7_init_33 : decode cX7_init 33 = .ok (.putfield 19, 3) := by decide +kernel
theorem dX7_init_36 : decode cX7_init 36 = .ok (.aload_n 0, 1) := by decide +kernel
theorem dX7_init_37 : decode cX7_init 37 = .ok (.iconst 4, 1) := by decide +kernel
theorem dX7_init_38 : decode cX7_init 38 = .ok (.newarray .int, 2) := by decide +kernel
theorem dX7_init_40 : decode cX7_init 40 = .ok (.putfield 22, 3) := by decide +kernel
theorem dX7_init_43 : decode cX7_init 43 = .ok (.aload_n 0, 1) := by decide +kernel
theorem dX7_init_44 : decode cX7_init 44 = .ok (.bipush 6, 2) := by decide +kernel
theorem dX7_init_46 : decode cX7_init 46 = .ok (.newarray .int, 2) := by decide +kernel
theorem dX7_init_48 : decode cX7_init 48 = .ok (.putfield 25, 3) := by decide +kernel
theorem dX7_init_51 : decode cX7_init 51 = .ok (.aload_n 0, 1) := by decide +kernel
theorem dX7_init_52 : decode cX7_init 52 = .ok (.bipush 6, 2) := by decide +kernel
theorem dX7_init_54 : decode cX7_init 54 = .ok (.newarray .int, 2) := by decide +kernel
theorem dX7_init_56 : decode cX7_init 56 = .ok (.putfield 28, 3) := by decide +kernel
theorem dX7_init_59 : decode cX7_init 59 = .ok (.aload_n 0, 1) := by decide +kernel
theorem dX7_init_60 : decode cX7_init 60 = .ok (.bipush 6, 2) := by decide +kernel
theorem dX7_init_62 : decode cX7_init 62 = .ok (.newarray .int, 2) := by decide +kernel
theorem dX7_init_64 : decode cX7_init 64 = .ok (.putfield 31, 3) := by decide +kernel
theorem dX7_init_67 : decode cX7_init 67 = .ok (.aload_n 0, 1) := by decide +kernel
theorem dX7_init_68 : decode cX7_init 68 = .ok (.bipush 40, 2) := by decide +kernel
theorem dX7_init_70 : decode cX7_init 70 = .ok (.newarray .int, 2) := by decide +kernel
theorem dX7_init_72 : decode cX7_init 72 = .ok (.putfield 34, 3) := by decide +kernel
theorem dX7_init_75 : decode cX7_init 75 = .ok (.aload_n 0, 1) := by decide +kernel
theorem dX7_init_76 : decode cX7_init 76 = .ok (.bipush 6, 2) := by decide +kernel
theorem dX7_init_78 : decode cX7_init 78 = .ok (.newarray .int, 2) := by decide +kernel
theorem dX7_init_80 : decode cX7_init 80 = .ok (.putfield 37, 3) := by decide +kernel
theorem dX7_init_83 : decode cX7_init 83 = .ok (.aload_n 0, 1) := by decide +kernel
theorem dX7_init_84 : decode cX7_init 84 = .ok (.sipush 7000, 3) := by decide +kernel
theorem dX7_init_87 : decode cX7_init 87 = .ok (.newarray .int, 2) := by decide +kernel
theorem dX7_init_89 : decode cX7_init 89 = .ok (.putfield 40, 3) := by decide +kernel
theorem dX7_init_92 : decode cX7_init 92 = .ok (.aload_n 0, 1) := by decide +kernel
theorem dX7_init_93 : decode cX7_init 93 = .ok (.sipush 7000, 3) := by decide +kernel
theorem dX7_init_96 : decode cX7_init 96 = .ok (.newarray .int, 2) := by decide +kernel
theorem dX7_init_98 : decode cX7_init 98 = .ok (.putfield 43, 3) := by decide +kernel
theorem dX7_init_101 : decode cX7_init 101 = .ok (.aload_n 0, 1) := by decide +kernel
theorem dX7_init_102 : decode cX7_init 102 = .ok (.sipush 10000, 3) := by decide +kernel
theorem dX7_init_105 : decode cX7_init 105 = .ok (.newarray .boolean, 2) := by decide +kernel
theorem dX7_init_107 : decode cX7_init 107 = .ok (.putfield 46, 3) := by decide +kernel
theorem dX7_init_110 : decode cX7_init 110 = .ok (.aload_n 0, 1) := by decide +kernel
theorem dX7_init_111 : decode cX7_init 111 = .ok (.iconst 4, 1) := by decide +kernel
theorem dX7_init_112 : decode cX7_init 112 = .ok (.newarray .int, 2) := by decide +kernel
theorem dX7_init_114 : decode cX7_init 114 = .ok (.putfield 50, 3) := by decide +kernel
theorem dX7_init_117 : decode cX7_init 117 = .ok (.aload_n 0, 1) := by decide +kernel
theorem dX7_init_118 : decode cX7_init 118 = .ok (.iconst 4, 1) := by decide +kernel
theorem dX7_init_119 : decode cX7_init 119 = .ok (.newarray .int, 2) := by decide +kernel
theorem dX7_init_121 : decode cX7_init 121 = .ok (.putfield 53, 3) := by decide +kernel
theorem dX7_init_124 : decode cX7_init 124 = .ok (.aload_n 0, 1) := by decide +kernel
theorem dX7_init_125 : decode cX7_init 125 = .ok (.sipush 1000, 3) := by decide +kernel
theorem dX7_init_128 : decode cX7_init 128 = .ok (.newarray .boolean, 2) := by decide +kernel
theorem dX7_init_130 : decode cX7_init 130 = .ok (.putfield 56, 3) := by decide +kernel
theorem dX7_init_133 : decode cX7_init 133 = .ok (.aload_n 0, 1) := by decide +kernel
theorem dX7_init_134 : decode cX7_init 134 = .ok (.bipush 120, 2) := by decide +kernel
theorem dX7_init_136 : decode cX7_init 136 = .ok (.newarray .int, 2) := by decide +kernel
theorem dX7_init_138 : decode cX7_init 138 = .ok (.putfield 59, 3) := by decide +kernel
theorem dX7_init_141 : decode cX7_init 141 = .ok (.aload_n 0, 1) := by decide +kernel
theorem dX7_init_142 : decode cX7_init 142 = .ok (.iconst 2, 1) := by decide +kernel
theorem dX7_init_143 : decode cX7_init 143 = .ok (.newarray .boolean, 2) := by decide +kernel
theorem dX7_init_145 : decode cX7_init 145 = .ok (.putfield 62, 3) := by decide +kernel
theorem dX7_init_148 : decode cX7_init 148 = .ok (.iconst 0, 1) := by decide +kernel
theorem dX7_init_149 : decode cX7_init 149 = .ok (.istore_n 1, 1) := by decide +kernel
theorem dX7_init_150 : decode cX7_init 150 = .ok (.iload_n 1, 1) := by decide +kernel
theorem dX7_init_151 : decode cX7_init 151 = .ok (.iconst 4, 1) := by decide +kernel
theorem dX7_init_152 : decode cX7_init 152 = .ok (.if_icmp .ge 16, 3) := by decide +kernel
theorem dX7_init_155 : decode cX7_init 155 = .ok (.aload_n 0, 1) := by decide +kernel
theorem dX7_init_156 : decode cX7_init 156 = .ok (.getfield 22, 3) := by decide +kernel
theorem dX7_init_159 : decode cX7_init 159 = .ok (.iload_n 1, 1) := by decide +kernel
theorem dX7_init_160 : decode cX7_init 160 = .ok (.iconst (-1), 1) := by decide +kernel
theorem dX7_init_161 : decode cX7_init 161 = .ok (.iastore, 1) := by decide +kernel
theorem dX7_init_162 : decode cX7_init 162 = .ok (.iinc 1 1, 3) := by decide +kernel
theorem dX7_init_165 : decode cX7_init 165 = .ok (.goto (-15), 3) := by decide +kernel
theorem dX7_init_168 : decode cX7_init 168 = .ok (.return_, 1) := by decide +kernel
theorem dX7_in_0 : decode cX7_in 0 = .ok (.lload_n 0, 1) := by decide +kernel
theorem dX7_in_1 : decode cX7_in 1 = .ok (.lload_n 2, 1) := by decide +kernel
theorem dX7_in_2 : decode cX7_in 2 = .ok (.lcmp, 1) := by decide +kernel
theorem dX7_in_3 : decode cX7_in 3 = .ok (.ifCond .lt 14, 3) := by decide +kernel
theorem dX7_in_6 : decode cX7_in 6 = .ok (.lload_n 0, 1) := by decide +kernel
theorem dX7_in_7 : decode cX7_in 7 = .ok (.lload 4, 2) := by decide +kernel
theorem dX7_in_9 : decode cX7_in 9 = .ok (.lcmp, 1) := by decide +kernel
theorem dX7_in_10 : decode cX7_in 10 = .ok (.ifCond .gt 7, 3) := by decide +kernel
theorem dX7_in_13 : decode cX7_in 13 = .ok (.iconst 1, 1) := by decide +kernel
theorem dX7_in_14 : decode cX7_in 14 = .ok (.goto 4, 3) := by decide +kernel
theorem dX7_in_17 : decode cX7_in 17 = .ok (.iconst 0, 1) := by decide +kernel
theorem dX7_in_18 : decode cX7_in 18 = .ok (.ireturn, 1) := by decide +kernel
theorem dX7_isThing_0 : decode cX7_isThing 0 = .ok (.iload_n 0, 1) := by decide +kernel
theorem dX7_isThing_1 : decode cX7_isThing 1 = .ok (.i2l, 1) := by decide +kernel
theorem dX7_isThing_2 : decode cX7_isThing 2 = .ok (.lconst 0, 1) := by decide +kernel
theorem dX7_isThing_3 : decode cX7_isThing 3 = .ok (.ldc2_w 65, 3) := by decide +kernel
theorem dX7_isThing_6 : decode cX7_isThing 6 = .ok (.invokestatic 67, 3) := by decide +kernel
theorem dX7_isThing_9 : decode cX7_isThing 9 = .ok (.ireturn, 1) := by decide +kernel
theorem dX7_isSum_0 : decode cX7_isSum 0 = .ok (.iload_n 0, 1) := by decide +kernel
theorem dX7_isSum_1 : decode cX7_isSum 1 = .ok (.i2l, 1) := by decide +kernel
theorem dX7_isSum_2 : decode cX7_isSum 2 = .ok (.lconst 0, 1) := by decide +kernel
theorem dX7_isSum_3 : decode cX7_isSum 3 = .ok (.ldc2_w 71, 3) := by decide +kernel
theorem dX7_isSum_6 : decode cX7_isSum 6 = .ok (.invokestatic 67, 3) := by decide +kernel
theorem dX7_isSum_9 : decode cX7_isSum 9 = .ok (.ireturn, 1) := by decide +kernel
theorem dX7_thing_0 : decode cX7_thing 0 = .ok (.iload_n 1, 1) := by decide +kernel
theorem dX7_thing_1 : decode cX7_thing 1 = .ok (.invokestatic 73, 3) := by decide +kernel
theorem dX7_thing_4 : decode cX7_thing 4 = .ok (.ifCond .ne 5, 3) := by decide +kernel
theorem dX7_thing_7 : decode cX7_thing 7 = .ok (.iconst (-1), 1) := by decide +kernel
theorem dX7_thing_8 : decode cX7_thing 8 = .ok (.ireturn, 1) := by decide +kernel
theorem dX7_thing_9 : decode cX7_thing 9 = .ok (.iload_n 2, 1) := by decide +kernel
theorem dX7_thing_10 : decode cX7_thing 10 = .ok (.i2l, 1) := by decide +kernel
theorem dX7_thing_11 : decode cX7_thing 11 = .ok (.lconst 0, 1) := by decide +kernel
theorem dX7_thing_12 : decode cX7_thing 12 = .ok (.ldc2_w 77, 3) := by decide +kernel
theorem dX7_thing_15 : decode cX7_thing 15 = .ok (.invokestatic 67, 3) := by decide +kernel
theorem dX7_thing_18 : decode cX7_thing 18 = .ok (.ifCond .eq 41, 3) := by decide +kernel
theorem dX7_thing_21 : decode cX7_thing 21 = .ok (.iload_n 3, 1) := by decide +kernel
theorem dX7_thing_22 : decode cX7_thing 22 = .ok (.i2l, 1) := by decide +kernel
theorem dX7_thing_23 : decode cX7_thing 23 = .ok (.lconst 0, 1) := by decide +kernel
theorem dX7_thing_24 : decode cX7_thing 24 = .ok (.ldc2_w 79, 3) := by decide +kernel
theorem dX7_thing_27 : decode cX7_thing 27 = .ok (.invokestatic 67, 3) := by decide +kernel
theorem dX7_thing_30 : decode cX7_thing 30 = .ok (.ifCond .eq 29, 3) := by decide +kernel
theorem dX7_thing_33 : decode cX7_thing 33 = .ok (.iload 4, 2) := by decide +kernel
theorem dX7_thing_35 : decode cX7_thing 35 = .ok (.i2l, 1) := by decide +kernel
theorem dX7_thing_36 : decode cX7_thing 36 = .ok (.lconst 0, 1) := by decide +kernel
theorem dX7_thing_37 : decode cX7_thing 37 = .ok (.ldc2_w 77, 3) := by decide +kernel
theorem dX7_thing_40 : decode cX7_thing 40 = .ok (.invokestatic 67, 3) := by decide +kernel
theorem dX7_thing_43 : decode cX7_thing 43 = .ok (.ifCond .eq 16, 3) := by decide +kernel
theorem dX7_thing_46 : decode cX7_thing 46 = .ok (.iload 5, 2) := by decide +kernel
theorem dX7_thing_48 : decode cX7_thing 48 = .ok (.i2l, 1) := by decide +kernel
theorem dX7_thing_49 : decode cX7_thing 49 = .ok (.lconst 0, 1) := by decide +kernel
theorem dX7_thing_50 : decode cX7_thing 50 = .ok (.ldc2_w 77, 3) := by decide +kernel
theorem dX7_thing_53 : decode cX7_thing 53 = .ok (.invokestatic 67, 3) := by decide +kernel
theorem dX7_thing_56 : decode cX7_thing 56 = .ok (.ifCond .ne 6, 3) := by decide +kernel
theorem dX7_thing_59 : decode cX7_thing 59 = .ok (.bipush (-2), 2) := by decide +kernel
theorem dX7_thing_61 : decode cX7_thing 61 = .ok (.ireturn, 1) := by decide +kernel
theorem dX7_thing_62 : decode cX7_thing 62 = .ok (.aload_n 0, 1) := by decide +kernel
theorem dX7_thing_63 : decode cX7_thing 63 = .ok (.getfield 7, 3) := by decide +kernel
theorem dX7_thing_66 : decode cX7_thing 66 = .ok (.iload_n 1, 1) := by decide +kernel
theorem dX7_thing_67 : decode cX7_thing 67 = .ok (.iload_n 2, 1) := by decide +kernel
theorem dX7_thing_68 : decode cX7_thing 68 = .ok (.iastore, 1) := by decide +kernel
theorem dX7_thing_69 : decode cX7_thing 69 = .ok (.aload_n 0, 1) := by decide +kernel
theorem dX7_thing_70 : decode cX7_thing 70 = .ok (.getfield 13, 3) := by decide +kernel
theorem dX7_thing_73 : decode cX7_thing 73 = .ok (.iload_n 1, 1) := by decide +kernel
theorem dX7_thing_74 : decode cX7_thing 74 = .ok (.iload_n 3, 1) := by decide +kernel
theorem dX7_thing_75 : decode cX7_thing 75 = .ok (.iastore, 1) := by decide +kernel
theorem dX7_thing_76 : decode cX7_thing 76 = .ok (.aload_n 0, 1) := by decide +kernel
theorem dX7_thing_77 : decode cX7_thing 77 = .ok (.getfield 16, 3) := by decide +kernel
theorem dX7_thing_80 : decode cX7_thing 80 = .ok (.iload_n 1, 1) := by decide +kernel
theorem dX7_thing_81 : decode cX7_thing 81 = .ok (.iload 4, 2) := by decide +kernel
theorem dX7_thing_83 : decode cX7_thing 83 = .ok (.iastore, 1) := by decide +kernel
theorem dX7_thing_84 : decode cX7_thing 84 = .ok (.aload_n 0, 1) := by decide +kernel
theorem dX7_thing_85 : decode cX7_thing 85 = .ok (.getfield 19, 3) := by decide +kernel
theorem dX7_thing_88 : decode cX7_thing 88 = .ok (.iload_n 1, 1) := by decide +kernel
theorem dX7_thing_89 : decode cX7_thing 89 = .ok (.iload 5, 2) := by decide +kernel
theorem dX7_thing_91 : decode cX7_thing 91 = .ok (.iastore, 1) := by decide +kernel
theorem dX7_thing_92 : decode cX7_thing 92 = .ok (.iconst 1, 1) := by decide +kernel
theorem dX7_thing_93 : decode cX7_thing 93 = .ok (.ireturn, 1) := by decide +kernel
theorem dX7_say_0 : decode cX7_say 0 = .ok (.iload_n 1, 1) := by decide +kernel
theorem dX7_say_1 : decode cX7_say 1 = .ok (.i2l, 1) := by decide +kernel
theorem dX7_say_2 : decode cX7_say 2 = .ok (.ldc2_w 81, 3) := by decide +kernel
theorem dX7_say_5 : decode cX7_say 5 = .ok (.ldc2_w 83, 3) := by decide +kernel
theorem dX7_say_8 : decode cX7_say 8 = .ok (.invokestatic 67, 3) := by decide +kernel
theorem dX7_say_11 : decode cX7_say 11 = .ok (.ifCond .ne 6, 3) := by decide +kernel
theorem dX7_say_14 : decode cX7_say 14 = .ok (.bipush (-2), 2) := by decide +kernel
theorem dX7_say_16 : decode cX7_say 16 = .ok (.ireturn, 1) := by decide +kernel
theorem dX7_say_17 : decode cX7_say 17 = .ok (.aload_n 0, 1) := by decide +kernel
theorem dX7_say_18 : decode cX7_say 18 = .ok (.getfield 85, 3) := by decide +kernel
theorem dX7_say_21 : decode cX7_say 21 = .ok (.bipush 40, 2) := by decide +kernel
theorem dX7_say_23 : decode cX7_say 23 = .ok (.if_icmp .ne 6, 3) := by decide +kernel
theorem dX7_say_26 : decode cX7_say 26 = .ok (.bipush (-4), 2) := by decide +kernel
theorem dX7_say_28 : decode cX7_say 28 = .ok (.ireturn, 1) := by decide +kernel
theorem dX7_say_29 : decode cX7_say 29 = .ok (.aload_n 0, 1) := by decide +kernel
theorem dX7_say_30 : decode cX7_say 30 = .ok (.getfield 34, 3) := by decide +kernel
theorem dX7_say_33 : decode cX7_say 33 = .ok (.aload_n 0, 1) := by decide +kernel
theorem dX7_say_34 : decode cX7_say 34 = .ok (.getfield 85, 3) := by decide +kernel
theorem dX7_say_37 : decode cX7_say 37 = .ok (.iload_n 1, 1) := by decide +kernel
theorem dX7_say_38 : decode cX7_say 38 = .ok (.iastore, 1) := by decide +kernel
theorem dX7_say_39 : decode cX7_say 39 = .ok (.aload_n 0, 1) := by decide +kernel
theorem dX7_say_40 : decode cX7_say 40 = .ok (.dup, 1) := by decide +kernel
theorem dX7_say_41 : decode cX7_say 41 = .ok (.getfield 85, 3) := by decide +kernel
theorem dX7_say_44 : decode cX7_say 44 = .ok (.iconst 1, 1) := by decide +kernel
theorem dX7_say_45 : decode cX7_say 45 = .ok (.iadd, 1) := by decide +kernel
theorem dX7_say_46 : decode cX7_say 46 = .ok (.putfield 85, 3) := by decide +kernel
theorem dX7_say_49 : decode cX7_say 49 = .ok (.aload_n 0, 1) := by decide +kernel
theorem dX7_say_50 : decode cX7_say 50 = .ok (.getfield 85, 3) := by decide +kernel
theorem dX7_say_53 : decode cX7_say 53 = .ok (.ireturn, 1) := by decide +kernel
theorem dX7_wipe_0 : decode cX7_wipe 0 = .ok (.aload_n 0, 1) := by decide +kernel
theorem dX7_wipe_1 : decode cX7_wipe 1 = .ok (.getfield 85, 3) := by decide +kernel
theorem dX7_wipe_4 : decode cX7_wipe 4 = .ok (.istore_n 1, 1) := by decide +kernel
theorem dX7_wipe_5 : decode cX7_wipe 5 = .ok (.aload_n 0, 1) := by decide +kernel
theorem dX7_wipe_6 : decode cX7_wipe 6 = .ok (.iconst 0, 1) := by decide +kernel
theorem dX7_wipe_7 : decode cX7_wipe 7 = .ok (.putfield 85, 3) := by decide +kernel
theorem dX7_wipe_10 : decode cX7_wipe 10 = .ok (.iload_n 1, 1) := by decide +kernel
theorem dX7_wipe_11 : decode cX7_wipe 11 = .ok (.ireturn, 1) := by decide +kernel
theorem dX7_clearBasket_0 : decode cX7_clearBasket 0 = .ok (.iconst 0, 1) := by decide +kernel
theorem dX7_clearBasket_1 : decode cX7_clearBasket 1 = .ok (.istore_n 1, 1) := by decide +kernel
theorem dX7_clearBasket_2 : decode cX7_clearBasket 2 = .ok (.iload_n 1, 1) := by decide +kernel
theorem dX7_clearBasket_3 : decode cX7_clearBasket 3 = .ok (.bipush 6, 2) := by decide +kernel
theorem dX7_clearBasket_5 : decode cX7_clearBasket 5 = .ok (.if_icmp .ge 16, 3) := by decide +kernel
theorem dX7_clearBasket_8 : decode cX7_clearBasket 8 = .ok (.aload_n 0, 1) := by decide +kernel
theorem dX7_clearBasket_9 : decode cX7_clearBasket 9 = .ok (.getfield 37, 3) := by decide +kernel
theorem dX7_clearBasket_12 : decode cX7_clearBasket 12 = .ok (.iload_n 1, 1) := by decide +kernel
theorem dX7_clearBasket_13 : decode cX7_clearBasket 13 = .ok (.iconst 0, 1) := by decide +kernel
theorem dX7_clearBasket_14 : decode cX7_clearBasket 14 = .ok (.iastore, 1) := by decide +kernel
theorem dX7_clearBasket_15 : decode cX7_clearBasket 15 = .ok (.iinc 1 1, 3) := by decide +kernel
theorem dX7_clearBasket_18 : decode cX7_clearBasket 18 = .ok (.goto (-16), 3) := by decide +kernel
theorem dX7_clearBasket_21 : decode cX7_clearBasket 21 = .ok (.return_, 1) := by decide +kernel
theorem dX7_fault_0 : decode cX7_fault 0 = .ok (.aload_n 0, 1) := by decide +kernel
theorem dX7_fault_1 : decode cX7_fault 1 = .ok (.invokevirtual 89, 3) := by decide +kernel
theorem dX7_fault_4 : decode cX7_fault 4 = .ok (.iconst 0, 1) := by decide +kernel
theorem dX7_fault_5 : decode cX7_fault 5 = .ok (.istore_n 1, 1) := by decide +kernel
theorem dX7_fault_6 : decode cX7_fault 6 = .ok (.iload_n 1, 1) := by decide +kernel
theorem dX7_fault_7 : decode cX7_fault 7 = .ok (.aload_n 0, 1) := by decide +kernel
theorem dX7_fault_8 : decode cX7_fault 8 = .ok (.getfield 85, 3) := by decide +kernel
theorem dX7_fault_11 : decode cX7_fault 11 = .ok (.if_icmp .ge 62, 3) := by decide +kernel
theorem dX7_fault_14 : decode cX7_fault 14 = .ok (.aload_n 0, 1) := by decide +kernel
theorem dX7_fault_15 : decode cX7_fault 15 = .ok (.getfield 34, 3) := by decide +kernel
theorem dX7_fault_18 : decode cX7_fault 18 = .ok (.iload_n 1, 1) := by decide +kernel
theorem dX7_fault_19 : decode cX7_fault 19 = .ok (.iaload, 1) := by decide +kernel
theorem dX7_fault_20 : decode cX7_fault 20 = .ok (.bipush 97, 2) := by decide +kernel
theorem dX7_fault_22 : decode cX7_fault 22 = .ok (.isub, 1) := by decide +kernel
theorem dX7_fault_23 : decode cX7_fault 23 = .ok (.istore_n 2, 1) := by decide +kernel
theorem dX7_fault_24 : decode cX7_fault 24 = .ok (.iload_n 2, 1) := by decide +kernel
theorem dX7_fault_25 : decode cX7_fault 25 = .ok (.invokestatic 73, 3) := by decide +kernel
theorem dX7_fault_28 : decode cX7_fault 28 = .ok (.ifCond .eq 27, 3) := by decide +kernel
theorem dX7_fault_31 : decode cX7_fault 31 = .ok (.aload_n 0, 1) := by decide +kernel
theorem dX7_fault_32 : decode cX7_fault 32 = .ok (.getfield 7, 3) := by decide +kernel
theorem dX7_fault_35 : decode cX7_fault 35 = .ok (.iload_n 2, 1) := by decide +kernel
theorem dX7_fault_36 : decode cX7_fault 36 = .ok (.iaload, 1) := by decide +kernel
theorem dX7_fault_37 : decode cX7_fault 37 = .ok (.ifCond .eq 18, 3) := by decide +kernel
theorem dX7_fault_40 : decode cX7_fault 40 = .ok (.aload_n 0, 1) := by decide +kernel
theorem dX7_fault_41 : decode cX7_fault 41 = .ok (.getfield 37, 3) := by decide +kernel
theorem dX7_fault_44 : decode cX7_fault 44 = .ok (.iload_n 2, 1) := by decide +kernel
theorem dX7_fault_45 : decode cX7_fault 45 = .ok (.iaload, 1) := by decide +kernel
theorem dX7_fault_46 : decode cX7_fault 46 = .ok (.aload_n 0, 1) := by decide +kernel
theorem dX7_fault_47 : decode cX7_fault 47 = .ok (.getfield 13, 3) := by decide +kernel
theorem dX7_fault_50 : decode cX7_fault 50 = .ok (.iload_n 2, 1) := by decide +kernel
theorem dX7_fault_51 : decode cX7_fault 51 = .ok (.iaload, 1) := by decide +kernel
theorem dX7_fault_52 : decode cX7_fault 52 = .ok (.if_icmp .ne 5, 3) := by decide +kernel
theorem dX7_fault_55 : decode cX7_fault 55 = .ok (.iload_n 1, 1) := by decide +kernel
theorem dX7_fault_56 : decode cX7_fault 56 = .ok (.ireturn, 1) := by decide +kernel
theorem dX7_fault_57 : decode cX7_fault 57 = .ok (.aload_n 0, 1) := by decide +kernel
theorem dX7_fault_58 : decode cX7_fault 58 = .ok (.getfield 37, 3) := by decide +kernel
theorem dX7_fault_61 : decode cX7_fault 61 = .ok (.iload_n 2, 1) := by decide +kernel
theorem dX7_fault_62 : decode cX7_fault 62 = .ok (.dup2, 1) := by decide +kernel
theorem dX7_fault_63 : decode cX7_fault 63 = .ok (.iaload, 1) := by decide +kernel
theorem dX7_fault_64 : decode cX7_fault 64 = .ok (.iconst 1, 1) := by decide +kernel
theorem dX7_fault_65 : decode cX7_fault 65 = .ok (.iadd, 1) := by decide +kernel
theorem dX7_fault_66 : decode cX7_fault 66 = .ok (.iastore, 1) := by decide +kernel
theorem dX7_fault_67 : decode cX7_fault 67 = .ok (.iinc 1 1, 3) := by decide +kernel
theorem dX7_fault_70 : decode cX7_fault 70 = .ok (.goto (-64), 3) := by decide +kernel
theorem dX7_fault_73 : decode cX7_fault 73 = .ok (.bipush (-6), 2) := by decide +kernel
theorem dX7_fault_75 : decode cX7_fault 75 = .ok (.ireturn, 1) := by decide +kernel
theorem dX7_oneWorth_0 : decode cX7_oneWorth 0 = .ok (.aload_n 0, 1) := by decide +kernel
theorem dX7_oneWorth_1 : decode cX7_oneWorth 1 = .ok (.getfield 16, 3) := by decide +kernel
theorem dX7_oneWorth_4 : decode cX7_oneWorth 4 = .ok (.iload_n 1, 1) := by decide +kernel
theorem dX7_oneWorth_5 : decode cX7_oneWorth 5 = .ok (.iaload, 1) := by decide +kernel
theorem dX7_oneWorth_6 : decode cX7_oneWorth 6 = .ok (.iload_n 2, 1) := by decide +kernel
theorem dX7_oneWorth_7 : decode cX7_oneWorth 7 = .ok (.aload_n 0, 1) := by decide +kernel
theorem dX7_oneWorth_8 : decode cX7_oneWorth 8 = .ok (.getfield 19, 3) := by decide +kernel
theorem dX7_oneWorth_11 : decode cX7_oneWorth 11 = .ok (.iload_n 1, 1) := by decide +kernel
theorem dX7_oneWorth_12 : decode cX7_oneWorth 12 = .ok (.iaload, 1) := by decide +kernel
theorem dX7_oneWorth_13 : decode cX7_oneWorth 13 = .ok (.imul, 1) := by decide +kernel
theorem dX7_oneWorth_14 : decode cX7_oneWorth 14 = .ok (.isub, 1) := by decide +kernel
theorem dX7_oneWorth_15 : decode cX7_oneWorth 15 = .ok (.istore_n 3, 1) := by decide +kernel
theorem dX7_oneWorth_16 : decode cX7_oneWorth 16 = .ok (.iload_n 3, 1) := by decide +kernel
theorem dX7_oneWorth_17 : decode cX7_oneWorth 17 = .ok (.ifCond .le 7, 3) := by decide +kernel
theorem dX7_oneWorth_20 : decode cX7_oneWorth 20 = .ok (.iload_n 3, 1) := by decide +kernel
theorem dX7_oneWorth_21 : decode cX7_oneWorth 21 = .ok (.goto 4, 3) := by decide +kernel
theorem dX7_oneWorth_24 : decode cX7_oneWorth 24 = .ok (.iconst 0, 1) := by decide +kernel
theorem dX7_oneWorth_25 : decode cX7_oneWorth 25 = .ok (.ireturn, 1) := by decide +kernel
theorem dX7_worthOf_0 : decode cX7_worthOf 0 = .ok (.iconst 0, 1) := by decide +kernel
theorem dX7_worthOf_1 : decode cX7_worthOf 1 = .ok (.istore_n 3, 1) := by decide +kernel
theorem dX7_worthOf_2 : decode cX7_worthOf 2 = .ok (.iconst 0, 1) := by decide +kernel
theorem dX7_worthOf_3 : decode cX7_worthOf 3 = .ok (.istore 4, 2) := by decide +kernel
theorem dX7_worthOf_5 : decode cX7_worthOf 5 = .ok (.iload 4, 2) := by decide +kernel
theorem dX7_worthOf_7 : decode cX7_worthOf 7 = .ok (.iload_n 2, 1) := by decide +kernel
theorem dX7_worthOf_8 : decode cX7_worthOf 8 = .ok (.if_icmp .ge 19, 3) := by decide +kernel
theorem dX7_worthOf_11 : decode cX7_worthOf 11 = .ok (.iload_n 3, 1) := by decide +kernel
theorem dX7_worthOf_12 : decode cX7_worthOf 12 = .ok (.aload_n 0, 1) := by decide +kernel
theorem dX7_worthOf_13 : decode cX7_worthOf 13 = .ok (.iload_n 1, 1) := by decide +kernel
theorem dX7_worthOf_14 : decode cX7_worthOf 14 = .ok (.iload 4, 2) := by decide +kernel
theorem dX7_worthOf_16 : decode cX7_worthOf 16 = .ok (.invokevirtual 92, 3) := by decide +kernel
theorem dX7_worthOf_19 : decode cX7_worthOf 19 = .ok (.iadd, 1) := by decide +kernel
theorem dX7_worthOf_20 : decode cX7_worthOf 20 = .ok (.istore_n 3, 1) := by decide +kernel
theorem dX7_worthOf_21 : decode cX7_worthOf 21 = .ok (.iinc 4 1, 3) := by decide +kernel
theorem dX7_worthOf_24 : decode cX7_worthOf 24 = .ok (.goto (-19), 3) := by decide +kernel
theorem dX7_worthOf_27 : decode cX7_worthOf 27 = .ok (.iload_n 3, 1) := by decide +kernel
theorem dX7_worthOf_28 : decode cX7_worthOf 28 = .ok (.ireturn, 1) := by decide +kernel
theorem dX7_basket_0 : decode cX7_basket 0 = .ok (.iload_n 1, 1) := by decide +kernel
theorem dX7_basket_1 : decode cX7_basket 1 = .ok (.i2l, 1) := by decide +kernel
theorem dX7_basket_2 : decode cX7_basket 2 = .ok (.lconst 0, 1) := by decide +kernel
theorem dX7_basket_3 : decode cX7_basket 3 = .ok (.ldc2_w 96, 3) := by decide +kernel
theorem dX7_basket_6 : decode cX7_basket 6 = .ok (.invokestatic 67, 3) := by decide +kernel
theorem dX7_basket_9 : decode cX7_basket 9 = .ok (.ifCond .ne 6, 3) := by decide +kernel
theorem dX7_basket_12 : decode cX7_basket 12 = .ok (.bipush (-2), 2) := by decide +kernel
theorem dX7_basket_14 : decode cX7_basket 14 = .ok (.ireturn, 1) := by decide +kernel
theorem dX7_basket_15 : decode cX7_basket 15 = .ok (.aload_n 0, 1) := by decide +kernel
theorem dX7_basket_16 : decode cX7_basket 16 = .ok (.invokevirtual 98, 3) := by decide +kernel
theorem dX7_basket_19 : decode cX7_basket 19 = .ok (.ifCond .lt 6, 3) := by decide +kernel
theorem dX7_basket_22 : decode cX7_basket 22 = .ok (.bipush (-5), 2) := by decide +kernel
theorem dX7_basket_24 : decode cX7_basket 24 = .ok (.ireturn, 1) := by decide +kernel
theorem dX7_basket_25 : decode cX7_basket 25 = .ok (.iconst 0, 1) := by decide +kernel
theorem dX7_basket_26 : decode cX7_basket 26 = .ok (.istore_n 2, 1) := by decide +kernel
theorem dX7_basket_27 : decode cX7_basket 27 = .ok (.iconst 0, 1) := by decide +kernel
theorem dX7_basket_28 : decode cX7_basket 28 = .ok (.istore_n 3, 1) := by decide +kernel
theorem dX7_basket_29 : decode cX7_basket 29 = .ok (.iload_n 3, 1) := by decide +kernel
theorem dX7_basket_30 : decode cX7_basket 30 = .ok (.bipush 6, 2) := by decide +kernel
theorem dX7_basket_32 : decode cX7_basket 32 = .ok (.if_icmp .ge 57, 3) := by decide +kernel
theorem dX7_basket_35 : decode cX7_basket 35 = .ok (.iload_n 2, 1) := by decide +kernel
theorem dX7_basket_36 : decode cX7_basket 36 = .ok (.iload_n 1, 1) := by decide +kernel
theorem dX7_basket_37 : decode cX7_basket 37 = .ok (.ifCond .ne 19, 3) := by decide +kernel
theorem dX7_basket_40 : decode cX7_basket 40 = .ok (.aload_n 0, 1) := by decide +kernel
theorem dX7_basket_41 : decode cX7_basket 41 = .ok (.getfield 37, 3) := by decide +kernel
theorem dX7_basket_44 : decode cX7_basket 44 = .ok (.iload_n 3, 1) := by decide +kernel
theorem dX7_basket_45 : decode cX7_basket 45 = .ok (.iaload, 1) := by decide +kernel
theorem dX7_basket_46 : decode cX7_basket 46 = .ok (.aload_n 0, 1) := by decide +kernel
theorem dX7_basket_47 : decode cX7_basket 47 = .ok (.getfield 7, 3) := by decide +kernel
theorem dX7_basket_50 : decode cX7_basket 50 = .ok (.iload_n 3, 1) := by decide +kernel
theorem dX7_basket_51 : decode cX7_basket 51 = .ok (.iaload, 1) := by decide +kernel
theorem dX7_basket_52 : decode cX7_basket 52 = .ok (.imul, 1) := by decide +kernel
theorem dX7_basket_53 : decode cX7_basket 53 = .ok (.goto 28, 3) := by decide +kernel
theorem dX7_basket_56 : decode cX7_basket 56 = .ok (.iload_n 1, 1) := by decide +kernel
theorem dX7_basket_57 : decode cX7_basket 57 = .ok (.iconst 1, 1) := by decide +kernel
theorem dX7_basket_58 : decode cX7_basket 58 = .ok (.if_icmp .ne 17, 3) := by decide +kernel
theorem dX7_basket_61 : decode cX7_basket 61 = .ok (.aload_n 0, 1) := by decide +kernel
theorem dX7_basket_62 : decode cX7_basket 62 = .ok (.iload_n 3, 1) := by decide +kernel
theorem dX7_basket_63 : decode cX7_basket 63 = .ok (.aload_n 0, 1) := by decide +kernel
theorem dX7_basket_64 : decode cX7_basket 64 = .ok (.getfield 37, 3) := by decide +kernel
theorem dX7_basket_67 : decode cX7_basket 67 = .ok (.iload_n 3, 1) := by decide +kernel
theorem dX7_basket_68 : decode cX7_basket 68 = .ok (.iaload, 1) := by decide +kernel
theorem dX7_basket_69 : decode cX7_basket 69 = .ok (.invokevirtual 102, 3) := by decide +kernel
theorem dX7_basket_72 : decode cX7_basket 72 = .ok (.goto 9, 3) := by decide +kernel
theorem dX7_basket_75 : decode cX7_basket 75 = .ok (.aload_n 0, 1) := by decide +kernel
theorem dX7_basket_76 : decode cX7_basket 76 = .ok (.getfield 37, 3) := by decide +kernel
theorem dX7_basket_79 : decode cX7_basket 79 = .ok (.iload_n 3, 1) := by decide +kernel
theorem dX7_basket_80 : decode cX7_basket 80 = .ok (.iaload, 1) := by decide +kernel
theorem dX7_basket_81 : decode cX7_basket 81 = .ok (.iadd, 1) := by decide +kernel
theorem dX7_basket_82 : decode cX7_basket 82 = .ok (.istore_n 2, 1) := by decide +kernel
theorem dX7_basket_83 : decode cX7_basket 83 = .ok (.iinc 3 1, 3) := by decide +kernel
theorem dX7_basket_86 : decode cX7_basket 86 = .ok (.goto (-57), 3) := by decide +kernel
theorem dX7_basket_89 : decode cX7_basket 89 = .ok (.iload_n 2, 1) := by decide +kernel
theorem dX7_basket_90 : decode cX7_basket 90 = .ok (.ireturn, 1) := by decide +kernel
theorem dX7_most_0 : decode cX7_most 0 = .ok (.aload_n 0, 1) := by decide +kernel
theorem dX7_most_1 : decode cX7_most 1 = .ok (.getfield 7, 3) := by decide +kernel
theorem dX7_most_4 : decode cX7_most 4 = .ok (.iload_n 1, 1) := by decide +kernel
theorem dX7_most_5 : decode cX7_most 5 = .ok (.iaload, 1) := by decide +kernel
theorem dX7_most_6 : decode cX7_most 6 = .ok (.ifCond .ne 7, 3) := by decide +kernel
theorem dX7_most_9 : decode cX7_most 9 = .ok (.iconst 0, 1) := by decide +kernel
theorem dX7_most_10 : decode cX7_most 10 = .ok (.goto 9, 3) := by decide +kernel
theorem dX7_most_13 : decode cX7_most 13 = .ok (.aload_n 0, 1) := by decide +kernel
theorem dX7_most_14 : decode cX7_most 14 = .ok (.getfield 13, 3) := by decide +kernel
theorem dX7_most_17 : decode cX7_most 17 = .ok (.iload_n 1, 1) := by decide +kernel
theorem dX7_most_18 : decode cX7_most 18 = .ok (.iaload, 1) := by decide +kernel
theorem dX7_most_19 : decode cX7_most 19 = .ok (.ireturn, 1) := by decide +kernel
theorem dX7_fillRow_0 : decode cX7_fillRow 0 = .ok (.iconst 0, 1) := by decide +kernel
theorem dX7_fillRow_1 : decode cX7_fillRow 1 = .ok (.istore_n 2, 1) := by decide +kernel
theorem dX7_fillRow_2 : decode cX7_fillRow 2 = .ok (.iload_n 2, 1) := by decide +kernel
theorem dX7_fillRow_3 : decode cX7_fillRow 3 = .ok (.sipush 1000, 3) := by decide +kernel
theorem dX7_fillRow_6 : decode cX7_fillRow 6 = .ok (.if_icmp .ge 152, 3) := by decide +kernel
theorem dX7_fillRow_9 : decode cX7_fillRow 9 = .ok (.bipush (-6), 2) := by decide +kernel
theorem dX7_fillRow_11 : decode cX7_fillRow 11 = .ok (.istore_n 3, 1) := by decide +kernel
theorem dX7_fillRow_12 : decode cX7_fillRow 12 = .ok (.iconst 0, 1) := by decide +kernel
theorem dX7_fillRow_13 : decode cX7_fillRow 13 = .ok (.istore 4, 2) := by decide +kernel
theorem dX7_fillRow_15 : decode cX7_fillRow 15 = .ok (.iconst 0, 1) := by decide +kernel
theorem dX7_fillRow_16 : decode cX7_fillRow 16 = .ok (.istore 5, 2) := by decide +kernel
theorem dX7_fillRow_18 : decode cX7_fillRow 18 = .ok (.iload 5, 2) := by decide +kernel
theorem dX7_fillRow_20 : decode cX7_fillRow 20 = .ok (.aload_n 0, 1) := by decide +kernel
theorem dX7_fillRow_21 : decode cX7_fillRow 21 = .ok (.iload_n 1, 1) := by decide +kernel
theorem dX7_fillRow_22 : decode cX7_fillRow 22 = .ok (.invokevirtual 105, 3) := by decide +kernel
theorem dX7_fillRow_25 : decode cX7_fillRow 25 = .ok (.if_icmp .gt 100, 3) := by decide +kernel
theorem dX7_fillRow_28 : decode cX7_fillRow 28 = .ok (.iload 5, 2) := by decide +kernel
theorem dX7_fillRow_30 : decode cX7_fillRow 30 = .ok (.aload_n 0, 1) := by decide +kernel
theorem dX7_fillRow_31 : decode cX7_fillRow 31 = .ok (.getfield 7, 3) := by decide +kernel
theorem dX7_fillRow_34 : decode cX7_fillRow 34 = .ok (.iload_n 1, 1) := by decide +kernel
theorem dX7_fillRow_35 : decode cX7_fillRow 35 = .ok (.iaload, 1) := by decide +kernel
theorem dX7_fillRow_36 : decode cX7_fillRow 36 = .ok (.imul, 1) := by decide +kernel
theorem dX7_fillRow_37 : decode cX7_fillRow 37 = .ok (.iload_n 2, 1) := by decide +kernel
theorem dX7_fillRow_38 : decode cX7_fillRow 38 = .ok (.if_icmp .gt 87, 3) := by decide +kernel
theorem dX7_fillRow_41 : decode cX7_fillRow 41 = .ok (.sipush 1000, 3) := by decide +kernel
theorem dX7_fillRow_44 : decode cX7_fillRow 44 = .ok (.iload_n 1, 1) := by decide +kernel
theorem dX7_fillRow_45 : decode cX7_fillRow 45 = .ok (.iconst 1, 1) := by decide +kernel
theorem dX7_fillRow_46 : decode cX7_fillRow 46 = .ok (.iadd, 1) := by decide +kernel
theorem dX7_fillRow_47 : decode cX7_fillRow 47 = .ok (.imul, 1) := by decide +kernel
theorem dX7_fillRow_48 : decode cX7_fillRow 48 = .ok (.iload_n 2, 1) := by decide +kernel
theorem dX7_fillRow_49 : decode cX7_fillRow 49 = .ok (.iadd, 1) := by decide +kernel
theorem dX7_fillRow_50 : decode cX7_fillRow 50 = .ok (.iload 5, 2) := by decide +kernel
theorem dX7_fillRow_52 : decode cX7_fillRow 52 = .ok (.aload_n 0, 1) := by decide +kernel
theorem dX7_fillRow_53 : decode cX7_fillRow 53 = .ok (.getfield 7, 3) := by decide +kernel
theorem dX7_fillRow_56 : decode cX7_fillRow 56 = .ok (.iload_n 1, 1) := by decide +kernel
theorem dX7_fillRow_57 : decode cX7_fillRow 57 = .ok (.iaload, 1) := by decide +kernel
theorem dX7_fillRow_58 : decode cX7_fillRow 58 = .ok (.imul, 1) := by decide +kernel
theorem dX7_fillRow_59 : decode cX7_fillRow 59 = .ok (.isub, 1) := by decide +kernel
theorem dX7_fillRow_60 : decode cX7_fillRow 60 = .ok (.istore 6, 2) := by decide +kernel
theorem dX7_fillRow_62 : decode cX7_fillRow 62 = .ok (.aload_n 0, 1) := by decide +kernel
theorem dX7_fillRow_63 : decode cX7_fillRow 63 = .ok (.getfield 40, 3) := by decide +kernel
theorem dX7_fillRow_66 : decode cX7_fillRow 66 = .ok (.iload 6, 2) := by decide +kernel
theorem dX7_fillRow_68 : decode cX7_fillRow 68 = .ok (.iaload, 1) := by decide +kernel
theorem dX7_fillRow_69 : decode cX7_fillRow 69 = .ok (.ifCond .ge 8, 3) := by decide +kernel
theorem dX7_fillRow_72 : decode cX7_fillRow 72 = .ok (.bipush (-6), 2) := by decide +kernel
theorem dX7_fillRow_74 : decode cX7_fillRow 74 = .ok (.goto 18, 3) := by decide +kernel
theorem dX7_fillRow_77 : decode cX7_fillRow 77 = .ok (.aload_n 0, 1) := by decide +kernel
theorem dX7_fillRow_78 : decode cX7_fillRow 78 = .ok (.getfield 40, 3) := by decide +kernel
theorem dX7_fillRow_81 : decode cX7_fillRow 81 = .ok (.iload 6, 2) := by decide +kernel
theorem dX7_fillRow_83 : decode cX7_fillRow 83 = .ok (.iaload, 1) := by decide +kernel
theorem dX7_fillRow_84 : decode cX7_fillRow 84 = .ok (.aload_n 0, 1) := by decide +kernel
theorem dX7_fillRow_85 : decode cX7_fillRow 85 = .ok (.iload_n 1, 1) := by decide +kernel
theorem dX7_fillRow_86 : decode cX7_fillRow 86 = .ok (.iload 5, 2) := by decide +kernel
theorem dX7_fillRow_88 : decode cX7_fillRow 88 = .ok (.invokevirtual 102, 3) := by decide +kernel
theorem dX7_fillRow_91 : decode cX7_fillRow 91 = .ok (.iadd, 1) := by decide +kernel
theorem dX7_fillRow_92 : decode cX7_fillRow 92 = .ok (.istore 7, 2) := by decide +kernel
theorem dX7_fillRow_94 : decode cX7_fillRow 94 = .ok (.iload 7, 2) := by decide +kernel
theorem dX7_fillRow_96 : decode cX7_fillRow 96 = .ok (.iload_n 3, 1) := by decide +kernel
theorem dX7_fillRow_97 : decode cX7_fillRow 97 = .ok (.if_icmp .le 8, 3) := by decide +kernel
theorem dX7_fillRow_100 : decode cX7_fillRow 100 = .ok (.iload 7, 2) := by decide +kernel
theorem dX7_fillRow_102 : decode cX7_fillRow 102 = .ok (.goto 4, 3) := by decide +kernel
theorem dX7_fillRow_105 : decode cX7_fillRow 105 = .ok (.iload_n 3, 1) := by decide +kernel
theorem dX7_fillRow_106 : decode cX7_fillRow 106 = .ok (.istore_n 3, 1) := by decide +kernel
theorem dX7_fillRow_107 : decode cX7_fillRow 107 = .ok (.iload 4, 2) := by decide +kernel
theorem dX7_fillRow_109 : decode cX7_fillRow 109 = .ok (.aload_n 0, 1) := by decide +kernel
theorem dX7_fillRow_110 : decode cX7_fillRow 110 = .ok (.getfield 43, 3) := by decide +kernel
theorem dX7_fillRow_113 : decode cX7_fillRow 113 = .ok (.iload 6, 2) := by decide +kernel
theorem dX7_fillRow_115 : decode cX7_fillRow 115 = .ok (.iaload, 1) := by decide +kernel
theorem dX7_fillRow_116 : decode cX7_fillRow 116 = .ok (.iadd, 1) := by decide +kernel
theorem dX7_fillRow_117 : decode cX7_fillRow 117 = .ok (.istore 4, 2) := by decide +kernel
theorem dX7_fillRow_119 : decode cX7_fillRow 119 = .ok (.iinc 5 1, 3) := by decide +kernel
theorem dX7_fillRow_122 : decode cX7_fillRow 122 = .ok (.goto (-104), 3) := by decide +kernel
theorem dX7_fillRow_125 : decode cX7_fillRow 125 = .ok (.aload_n 0, 1) := by decide +kernel
theorem dX7_fillRow_126 : decode cX7_fillRow 126 = .ok (.getfield 40, 3) := by decide +kernel
theorem dX7_fillRow_129 : decode cX7_fillRow 129 = .ok (.sipush 1000, 3) := by decide +kernel
theorem dX7_fillRow_132 : decode cX7_fillRow 132 = .ok (.iload_n 1, 1) := by decide +kernel
theorem dX7_fillRow_133 : decode cX7_fillRow 133 = .ok (.imul, 1) := by decide +kernel
theorem dX7_fillRow_134 : decode cX7_fillRow 134 = .ok (.iload_n 2, 1) := by decide +kernel
theorem dX7_fillRow_135 : decode cX7_fillRow 135 = .ok (.iadd, 1) := by decide +kernel
theorem dX7_fillRow_136 : decode cX7_fillRow 136 = .ok (.iload_n 3, 1) := by decide +kernel
theorem dX7_fillRow_137 : decode cX7_fillRow 137 = .ok (.iastore, 1) := by decide +kernel
theorem dX7_fillRow_138 : decode cX7_fillRow 138 = .ok (.aload_n 0, 1) := by decide +kernel
theorem dX7_fillRow_139 : decode cX7_fillRow 139 = .ok (.getfield 43, 3) := by decide +kernel
theorem dX7_fillRow_142 : decode cX7_fillRow 142 = .ok (.sipush 1000, 3) := by decide +kernel
theorem dX7_fillRow_145 : decode cX7_fillRow 145 = .ok (.iload_n 1, 1) := by decide +kernel
theorem dX7_fillRow_146 : decode cX7_fillRow 146 = .ok (.imul, 1) := by decide +kernel
theorem dX7_fillRow_147 : decode cX7_fillRow 147 = .ok (.iload_n 2, 1) := by decide +kernel
theorem dX7_fillRow_148 : decode cX7_fillRow 148 = .ok (.iadd, 1) := by decide +kernel
theorem dX7_fillRow_149 : decode cX7_fillRow 149 = .ok (.iload 4, 2) := by decide +kernel
theorem dX7_fillRow_151 : decode cX7_fillRow 151 = .ok (.iastore, 1) := by decide +kernel
theorem dX7_fillRow_152 : decode cX7_fillRow 152 = .ok (.iinc 2 1, 3) := by decide +kernel
theorem dX7_fillRow_155 : decode cX7_fillRow 155 = .ok (.goto (-153), 3) := by decide +kernel
theorem dX7_fillRow_158 : decode cX7_fillRow 158 = .ok (.return_, 1) := by decide +kernel
theorem dX7_fill_0 : decode cX7_fill 0 = .ok (.iconst 0, 1) := by decide +kernel
theorem dX7_fill_1 : decode cX7_fill 1 = .ok (.istore_n 3, 1) := by decide +kernel
theorem dX7_fill_2 : decode cX7_fill 2 = .ok (.iload_n 3, 1) := by decide +kernel
theorem dX7_fill_3 : decode cX7_fill 3 = .ok (.sipush 1000, 3) := by decide +kernel
theorem dX7_fill_6 : decode cX7_fill 6 = .ok (.if_icmp .ge 56, 3) := by decide +kernel
theorem dX7_fill_9 : decode cX7_fill 9 = .ok (.aload_n 0, 1) := by decide +kernel
theorem dX7_fill_10 : decode cX7_fill 10 = .ok (.getfield 40, 3) := by decide +kernel
theorem dX7_fill_13 : decode cX7_fill 13 = .ok (.sipush 1000, 3) := by decide +kernel
theorem dX7_fill_16 : decode cX7_fill 16 = .ok (.iload_n 2, 1) := by decide +kernel
theorem dX7_fill_17 : decode cX7_fill 17 = .ok (.iconst 1, 1) := by decide +kernel
theorem dX7_fill_18 : decode cX7_fill 18 = .ok (.iadd, 1) := by decide +kernel
theorem dX7_fill_19 : decode cX7_fill 19 = .ok (.imul, 1) := by decide +kernel
theorem dX7_fill_20 : decode cX7_fill 20 = .ok (.iload_n 3, 1) := by decide +kernel
theorem dX7_fill_21 : decode cX7_fill 21 = .ok (.iadd, 1) := by decide +kernel
theorem dX7_fill_22 : decode cX7_fill 22 = .ok (.iload_n 3, 1) := by decide +kernel
theorem dX7_fill_23 : decode cX7_fill 23 = .ok (.ifCond .ne 7, 3) := by decide +kernel
theorem dX7_fill_26 : decode cX7_fill 26 = .ok (.iconst 0, 1) := by decide +kernel
theorem dX7_fill_27 : decode cX7_fill 27 = .ok (.goto 5, 3) := by decide +kernel
theorem dX7_fill_30 : decode cX7_fill 30 = .ok (.bipush (-6), 2) := by decide +kernel
theorem dX7_fill_32 : decode cX7_fill 32 = .ok (.iastore, 1) := by decide +kernel
theorem dX7_fill_33 : decode cX7_fill 33 = .ok (.aload_n 0, 1) := by decide +kernel
theorem dX7_fill_34 : decode cX7_fill 34 = .ok (.getfield 43, 3) := by decide +kernel
theorem dX7_fill_37 : decode cX7_fill 37 = .ok (.sipush 1000, 3) := by decide +kernel
theorem dX7_fill_40 : decode cX7_fill 40 = .ok (.iload_n 2, 1) := by decide +kernel
theorem dX7_fill_41 : decode cX7_fill 41 = .ok (.iconst 1, 1) := by decide +kernel
theorem dX7_fill_42 : decode cX7_fill 42 = .ok (.iadd, 1) := by decide +kernel
theorem dX7_fill_43 : decode cX7_fill 43 = .ok (.imul, 1) := by decide +kernel
theorem dX7_fill_44 : decode cX7_fill 44 = .ok (.iload_n 3, 1) := by decide +kernel
theorem dX7_fill_45 : decode cX7_fill 45 = .ok (.iadd, 1) := by decide +kernel
theorem dX7_fill_46 : decode cX7_fill 46 = .ok (.iload_n 3, 1) := by decide +kernel
theorem dX7_fill_47 : decode cX7_fill 47 = .ok (.ifCond .ne 7, 3) := by decide +kernel
theorem dX7_fill_50 : decode cX7_fill 50 = .ok (.iconst 1, 1) := by decide +kernel
theorem dX7_fill_51 : decode cX7_fill 51 = .ok (.goto 4, 3) := by decide +kernel
theorem dX7_fill_54 : decode cX7_fill 54 = .ok (.iconst 0, 1) := by decide +kernel
theorem dX7_fill_55 : decode cX7_fill 55 = .ok (.iastore, 1) := by decide +kernel
theorem dX7_fill_56 : decode cX7_fill 56 = .ok (.iinc 3 1, 3) := by decide +kernel
theorem dX7_fill_59 : decode cX7_fill 59 = .ok (.goto (-57), 3) := by decide +kernel
theorem dX7_fill_62 : decode cX7_fill 62 = .ok (.iload_n 2, 1) := by decide +kernel
theorem dX7_fill_63 : decode cX7_fill 63 = .ok (.istore_n 3, 1) := by decide +kernel
theorem dX7_fill_64 : decode cX7_fill 64 = .ok (.iload_n 3, 1) := by decide +kernel
theorem dX7_fill_65 : decode cX7_fill 65 = .ok (.iload_n 1, 1) := by decide +kernel
theorem dX7_fill_66 : decode cX7_fill 66 = .ok (.if_icmp .lt 14, 3) := by decide +kernel
theorem dX7_fill_69 : decode cX7_fill 69 = .ok (.aload_n 0, 1) := by decide +kernel
theorem dX7_fill_70 : decode cX7_fill 70 = .ok (.iload_n 3, 1) := by decide +kernel
theorem dX7_fill_71 : decode cX7_fill 71 = .ok (.invokevirtual 109, 3) := by decide +kernel
theorem dX7_fill_74 : decode cX7_fill 74 = .ok (.iinc 3 (-1), 3) := by decide +kernel
theorem dX7_fill_77 : decode cX7_fill 77 = .ok (.goto (-13), 3) := by decide +kernel
theorem dX7_fill_80 : decode cX7_fill 80 = .ok (.return_, 1) := by decide +kernel
theorem dX7_fillAll_0 : decode cX7_fillAll 0 = .ok (.aload_n 0, 1) := by decide +kernel
theorem dX7_fillAll_1 : decode cX7_fillAll 1 = .ok (.iconst 0, 1) := by decide +kernel
theorem dX7_fillAll_2 : decode cX7_fillAll 2 = .ok (.iconst 5, 1) := by decide +kernel
theorem dX7_fillAll_3 : decode cX7_fillAll 3 = .ok (.invokevirtual 113, 3) := by decide +kernel
theorem dX7_fillAll_6 : decode cX7_fillAll 6 = .ok (.return_, 1) := by decide +kernel
theorem dX7_comesOut_0 : decode cX7_comesOut 0 = .ok (.iload_n 1, 1) := by decide +kernel
theorem dX7_comesOut_1 : decode cX7_comesOut 1 = .ok (.invokestatic 117, 3) := by decide +kernel
theorem dX7_comesOut_4 : decode cX7_comesOut 4 = .ok (.ifCond .eq 16, 3) := by decide +kernel
theorem dX7_comesOut_7 : decode cX7_comesOut 7 = .ok (.aload_n 0, 1) := by decide +kernel
theorem dX7_comesOut_8 : decode cX7_comesOut 8 = .ok (.getfield 40, 3) := by decide +kernel
theorem dX7_comesOut_11 : decode cX7_comesOut 11 = .ok (.iload_n 1, 1) := by decide +kernel
theorem dX7_comesOut_12 : decode cX7_comesOut 12 = .ok (.iaload, 1) := by decide +kernel
theorem dX7_comesOut_13 : decode cX7_comesOut 13 = .ok (.ifCond .lt 7, 3) := by decide +kernel
theorem dX7_comesOut_16 : decode cX7_comesOut 16 = .ok (.iconst 1, 1) := by decide +kernel
theorem dX7_comesOut_17 : decode cX7_comesOut 17 = .ok (.goto 4, 3) := by decide +kernel
theorem dX7_comesOut_20 : decode cX7_comesOut 20 = .ok (.iconst 0, 1) := by decide +kernel
theorem dX7_comesOut_21 : decode cX7_comesOut 21 = .ok (.ireturn, 1) := by decide +kernel
theorem dX7_layBest_0 : decode cX7_layBest 0 = .ok (.iload_n 1, 1) := by decide +kernel
theorem dX7_layBest_1 : decode cX7_layBest 1 = .ok (.istore_n 2, 1) := by decide +kernel
theorem dX7_layBest_2 : decode cX7_layBest 2 = .ok (.iconst 0, 1) := by decide +kernel
theorem dX7_layBest_3 : decode cX7_layBest 3 = .ok (.istore_n 3, 1) := by decide +kernel
theorem dX7_layBest_4 : decode cX7_layBest 4 = .ok (.iload_n 3, 1) := by decide +kernel
theorem dX7_layBest_5 : decode cX7_layBest 5 = .ok (.bipush 6, 2) := by decide +kernel
theorem dX7_layBest_7 : decode cX7_layBest 7 = .ok (.if_icmp .ge 49, 3) := by decide +kernel
theorem dX7_layBest_10 : decode cX7_layBest 10 = .ok (.iconst 0, 1) := by decide +kernel
theorem dX7_layBest_11 : decode cX7_layBest 11 = .ok (.istore 4, 2) := by decide +kernel
theorem dX7_layBest_13 : decode cX7_layBest 13 = .ok (.aload_n 0, 1) := by decide +kernel
theorem dX7_layBest_14 : decode cX7_layBest 14 = .ok (.iload_n 3, 1) := by decide +kernel
theorem dX7_layBest_15 : decode cX7_layBest 15 = .ok (.iload 4, 2) := by decide +kernel
theorem dX7_layBest_17 : decode cX7_layBest 17 = .ok (.iload_n 2, 1) := by decide +kernel
theorem dX7_layBest_18 : decode cX7_layBest 18 = .ok (.invokevirtual 120, 3) := by decide +kernel
theorem dX7_layBest_21 : decode cX7_layBest 21 = .ok (.ifCond .ne 9, 3) := by decide +kernel
theorem dX7_layBest_24 : decode cX7_layBest 24 = .ok (.iinc 4 1, 3) := by decide +kernel
theorem dX7_layBest_27 : decode cX7_layBest 27 = .ok (.goto (-14), 3) := by decide +kernel
theorem dX7_layBest_30 : decode cX7_layBest 30 = .ok (.aload_n 0, 1) := by decide +kernel
theorem dX7_layBest_31 : decode cX7_layBest 31 = .ok (.getfield 37, 3) := by decide +kernel
theorem dX7_layBest_34 : decode cX7_layBest 34 = .ok (.iload_n 3, 1) := by decide +kernel
theorem dX7_layBest_35 : decode cX7_layBest 35 = .ok (.iload 4, 2) := by decide +kernel
theorem dX7_layBest_37 : decode cX7_layBest 37 = .ok (.iastore, 1) := by decide +kernel
theorem dX7_layBest_38 : decode cX7_layBest 38 = .ok (.iload_n 2, 1) := by decide +kernel
theorem dX7_layBest_39 : decode cX7_layBest 39 = .ok (.iload 4, 2) := by decide +kernel
theorem dX7_layBest_41 : decode cX7_layBest 41 = .ok (.aload_n 0, 1) := by decide +kernel
theorem dX7_layBest_42 : decode cX7_layBest 42 = .ok (.getfield 7, 3) := by decide +kernel
theorem dX7_layBest_45 : decode cX7_layBest 45 = .ok (.iload_n 3, 1) := by decide +kernel
theorem dX7_layBest_46 : decode cX7_layBest 46 = .ok (.iaload, 1) := by decide +kernel
theorem dX7_layBest_47 : decode cX7_layBest 47 = .ok (.imul, 1) := by decide +kernel
theorem dX7_layBest_48 : decode cX7_layBest 48 = .ok (.isub, 1) := by decide +kernel
theorem dX7_layBest_49 : decode cX7_layBest 49 = .ok (.istore_n 2, 1) := by decide +kernel
theorem dX7_layBest_50 : decode cX7_layBest 50 = .ok (.iinc 3 1, 3) := by decide +kernel
theorem dX7_layBest_53 : decode cX7_layBest 53 = .ok (.goto (-49), 3) := by decide +kernel
theorem dX7_layBest_56 : decode cX7_layBest 56 = .ok (.return_, 1) := by decide +kernel
theorem dX7_goesOn_0 : decode cX7_goesOn 0 = .ok (.iload_n 3, 1) := by decide +kernel
theorem dX7_goesOn_1 : decode cX7_goesOn 1 = .ok (.iload_n 2, 1) := by decide +kernel
theorem dX7_goesOn_2 : decode cX7_goesOn 2 = .ok (.aload_n 0, 1) := by decide +kernel
theorem dX7_goesOn_3 : decode cX7_goesOn 3 = .ok (.getfield 7, 3) := by decide +kernel
theorem dX7_goesOn_6 : decode cX7_goesOn 6 = .ok (.iload_n 1, 1) := by decide +kernel
theorem dX7_goesOn_7 : decode cX7_goesOn 7 = .ok (.iaload, 1) := by decide +kernel
theorem dX7_goesOn_8 : decode cX7_goesOn 8 = .ok (.imul, 1) := by decide +kernel
theorem dX7_goesOn_9 : decode cX7_goesOn 9 = .ok (.isub, 1) := by decide +kernel
theorem dX7_goesOn_10 : decode cX7_goesOn 10 = .ok (.istore 4, 2) := by decide +kernel
theorem dX7_goesOn_12 : decode cX7_goesOn 12 = .ok (.aload_n 0, 1) := by decide +kernel
theorem dX7_goesOn_13 : decode cX7_goesOn 13 = .ok (.getfield 40, 3) := by decide +kernel
theorem dX7_goesOn_16 : decode cX7_goesOn 16 = .ok (.sipush 1000, 3) := by decide +kernel
theorem dX7_goesOn_19 : decode cX7_goesOn 19 = .ok (.iload_n 1, 1) := by decide +kernel
theorem dX7_goesOn_20 : decode cX7_goesOn 20 = .ok (.iconst 1, 1) := by decide +kernel
theorem dX7_goesOn_21 : decode cX7_goesOn 21 = .ok (.iadd, 1) := by decide +kernel
theorem dX7_goesOn_22 : decode cX7_goesOn 22 = .ok (.imul, 1) := by decide +kernel
theorem dX7_goesOn_23 : decode cX7_goesOn 23 = .ok (.iload 4, 2) := by decide +kernel
theorem dX7_goesOn_25 : decode cX7_goesOn 25 = .ok (.iadd, 1) := by decide +kernel
theorem dX7_goesOn_26 : decode cX7_goesOn 26 = .ok (.iaload, 1) := by decide +kernel
theorem dX7_goesOn_27 : decode cX7_goesOn 27 = .ok (.istore 5, 2) := by decide +kernel
theorem dX7_goesOn_29 : decode cX7_goesOn 29 = .ok (.iload 5, 2) := by decide +kernel
theorem dX7_goesOn_31 : decode cX7_goesOn 31 = .ok (.ifCond .lt 31, 3) := by decide +kernel
theorem dX7_goesOn_34 : decode cX7_goesOn 34 = .ok (.iload 5, 2) := by decide +kernel
theorem dX7_goesOn_36 : decode cX7_goesOn 36 = .ok (.aload_n 0, 1) := by decide +kernel
theorem dX7_goesOn_37 : decode cX7_goesOn 37 = .ok (.iload_n 1, 1) := by decide +kernel
theorem dX7_goesOn_38 : decode cX7_goesOn 38 = .ok (.iload_n 2, 1) := by decide +kernel
theorem dX7_goesOn_39 : decode cX7_goesOn 39 = .ok (.invokevirtual 102, 3) := by decide +kernel
theorem dX7_goesOn_42 : decode cX7_goesOn 42 = .ok (.iadd, 1) := by decide +kernel
theorem dX7_goesOn_43 : decode cX7_goesOn 43 = .ok (.aload_n 0, 1) := by decide +kernel
theorem dX7_goesOn_44 : decode cX7_goesOn 44 = .ok (.getfield 40, 3) := by decide +kernel
theorem dX7_goesOn_47 : decode cX7_goesOn 47 = .ok (.sipush 1000, 3) := by decide +kernel
theorem dX7_goesOn_50 : decode cX7_goesOn 50 = .ok (.iload_n 1, 1) := by decide +kernel
theorem dX7_goesOn_51 : decode cX7_goesOn 51 = .ok (.imul, 1) := by decide +kernel
theorem dX7_goesOn_52 : decode cX7_goesOn 52 = .ok (.iload_n 3, 1) := by decide +kernel
theorem dX7_goesOn_53 : decode cX7_goesOn 53 = .ok (.iadd, 1) := by decide +kernel
theorem dX7_goesOn_54 : decode cX7_goesOn 54 = .ok (.iaload, 1) := by decide +kernel
theorem dX7_goesOn_55 : decode cX7_goesOn 55 = .ok (.if_icmp .ne 7, 3) := by decide +kernel
theorem dX7_goesOn_58 : decode cX7_goesOn 58 = .ok (.iconst 1, 1) := by decide +kernel
theorem dX7_goesOn_59 : decode cX7_goesOn 59 = .ok (.goto 4, 3) := by decide +kernel
theorem dX7_goesOn_62 : decode cX7_goesOn 62 = .ok (.iconst 0, 1) := by decide +kernel
theorem dX7_goesOn_63 : decode cX7_goesOn 63 = .ok (.ireturn, 1) := by decide +kernel
theorem dX7_ways_0 : decode cX7_ways 0 = .ok (.iload_n 1, 1) := by decide +kernel
theorem dX7_ways_1 : decode cX7_ways 1 = .ok (.invokestatic 117, 3) := by decide +kernel
theorem dX7_ways_4 : decode cX7_ways 4 = .ok (.ifCond .ne 6, 3) := by decide +kernel
theorem dX7_ways_7 : decode cX7_ways 7 = .ok (.bipush (-2), 2) := by decide +kernel
theorem dX7_ways_9 : decode cX7_ways 9 = .ok (.ireturn, 1) := by decide +kernel
theorem dX7_ways_10 : decode cX7_ways 10 = .ok (.aload_n 0, 1) := by decide +kernel
theorem dX7_ways_11 : decode cX7_ways 11 = .ok (.invokevirtual 124, 3) := by decide +kernel
theorem dX7_ways_14 : decode cX7_ways 14 = .ok (.aload_n 0, 1) := by decide +kernel
theorem dX7_ways_15 : decode cX7_ways 15 = .ok (.getfield 43, 3) := by decide +kernel
theorem dX7_ways_18 : decode cX7_ways 18 = .ok (.iload_n 1, 1) := by decide +kernel
theorem dX7_ways_19 : decode cX7_ways 19 = .ok (.iaload, 1) := by decide +kernel
theorem dX7_ways_20 : decode cX7_ways 20 = .ok (.ireturn, 1) := by decide +kernel
theorem dX7_best_0 : decode cX7_best 0 = .ok (.iload_n 1, 1) := by decide +kernel
theorem dX7_best_1 : decode cX7_best 1 = .ok (.invokestatic 117, 3) := by decide +kernel
theorem dX7_best_4 : decode cX7_best 4 = .ok (.ifCond .ne 6, 3) := by decide +kernel
theorem dX7_best_7 : decode cX7_best 7 = .ok (.bipush (-2), 2) := by decide +kernel
theorem dX7_best_9 : decode cX7_best 9 = .ok (.ireturn, 1) := by decide +kernel
theorem dX7_best_10 : decode cX7_best 10 = .ok (.aload_n 0, 1) := by decide +kernel
theorem dX7_best_11 : decode cX7_best 11 = .ok (.invokevirtual 124, 3) := by decide +kernel
theorem dX7_best_14 : decode cX7_best 14 = .ok (.aload_n 0, 1) := by decide +kernel
theorem dX7_best_15 : decode cX7_best 15 = .ok (.iload_n 1, 1) := by decide +kernel
theorem dX7_best_16 : decode cX7_best 16 = .ok (.invokevirtual 127, 3) := by decide +kernel
theorem dX7_best_19 : decode cX7_best 19 = .ok (.ifCond .ne 6, 3) := by decide +kernel
theorem dX7_best_22 : decode cX7_best 22 = .ok (.bipush (-6), 2) := by decide +kernel
theorem dX7_best_24 : decode cX7_best 24 = .ok (.ireturn, 1) := by decide +kernel
theorem dX7_best_25 : decode cX7_best 25 = .ok (.iload_n 2, 1) := by decide +kernel
theorem dX7_best_26 : decode cX7_best 26 = .ok (.iconst (-1), 1) := by decide +kernel
theorem dX7_best_27 : decode cX7_best 27 = .ok (.if_icmp .ne 10, 3) := by decide +kernel
theorem dX7_best_30 : decode cX7_best 30 = .ok (.aload_n 0, 1) := by decide +kernel
theorem dX7_best_31 : decode cX7_best 31 = .ok (.getfield 40, 3) := by decide +kernel
theorem dX7_best_34 : decode cX7_best 34 = .ok (.iload_n 1, 1) := by decide +kernel
theorem dX7_best_35 : decode cX7_best 35 = .ok (.iaload, 1) := by decide +kernel
theorem dX7_best_36 : decode cX7_best 36 = .ok (.ireturn, 1) := by decide +kernel
theorem dX7_best_37 : decode cX7_best 37 = .ok (.aload_n 0, 1) := by decide +kernel
theorem dX7_best_38 : decode cX7_best 38 = .ok (.iload_n 1, 1) := by decide +kernel
theorem dX7_best_39 : decode cX7_best 39 = .ok (.invokevirtual 130, 3) := by decide +kernel
theorem dX7_best_42 : decode cX7_best 42 = .ok (.iload_n 2, 1) := by decide +kernel
theorem dX7_best_43 : decode cX7_best 43 = .ok (.invokestatic 73, 3) := by decide +kernel
theorem dX7_best_46 : decode cX7_best 46 = .ok (.ifCond .eq 12, 3) := by decide +kernel
theorem dX7_best_49 : decode cX7_best 49 = .ok (.aload_n 0, 1) := by decide +kernel
theorem dX7_best_50 : decode cX7_best 50 = .ok (.getfield 37, 3) := by decide +kernel
theorem dX7_best_53 : decode cX7_best 53 = .ok (.iload_n 2, 1) := by decide +kernel
theorem dX7_best_54 : decode cX7_best 54 = .ok (.iaload, 1) := by decide +kernel
theorem dX7_best_55 : decode cX7_best 55 = .ok (.goto 5, 3) := by decide +kernel
theorem dX7_best_58 : decode cX7_best 58 = .ok (.bipush (-6), 2) := by decide +kernel
theorem dX7_best_60 : decode cX7_best 60 = .ok (.ireturn, 1) := by decide +kernel
theorem dX7_isSpan_0 : decode cX7_isSpan 0 = .ok (.iload_n 0, 1) := by decide +kernel
theorem dX7_isSpan_1 : decode cX7_isSpan 1 = .ok (.invokestatic 117, 3) := by decide +kernel
theorem dX7_isSpan_4 : decode cX7_isSpan 4 = .ok (.ifCond .eq 20, 3) := by decide +kernel
theorem dX7_isSpan_7 : decode cX7_isSpan 7 = .ok (.iload_n 1, 1) := by decide +kernel
theorem dX7_isSpan_8 : decode cX7_isSpan 8 = .ok (.i2l, 1) := by decide +kernel
theorem dX7_isSpan_9 : decode cX7_isSpan 9 = .ok (.iload_n 0, 1) := by decide +kernel
theorem dX7_isSpan_10 : decode cX7_isSpan 10 = .ok (.i2l, 1) := by decide +kernel
theorem dX7_isSpan_11 : decode cX7_isSpan 11 = .ok (.ldc2_w 71, 3) := by decide +kernel
theorem dX7_isSpan_14 : decode cX7_isSpan 14 = .ok (.invokestatic 67, 3) := by decide +kernel
theorem dX7_isSpan_17 : decode cX7_isSpan 17 = .ok (.ifCond .eq 7, 3) := by decide +kernel
theorem dX7_isSpan_20 : decode cX7_isSpan 20 = .ok (.iconst 1, 1) := by decide +kernel
theorem dX7_isSpan_21 : decode cX7_isSpan 21 = .ok (.goto 4, 3) := by decide +kernel
theorem dX7_isSpan_24 : decode cX7_isSpan 24 = .ok (.iconst 0, 1) := by decide +kernel
theorem dX7_isSpan_25 : decode cX7_isSpan 25 = .ok (.ireturn, 1) := by decide +kernel
theorem dX7_stuck_0 : decode cX7_stuck 0 = .ok (.iload_n 1, 1) := by decide +kernel
theorem dX7_stuck_1 : decode cX7_stuck 1 = .ok (.iload_n 2, 1) := by decide +kernel
theorem dX7_stuck_2 : decode cX7_stuck 2 = .ok (.invokestatic 133, 3) := by decide +kernel
theorem dX7_stuck_5 : decode cX7_stuck 5 = .ok (.ifCond .ne 6, 3) := by decide +kernel
theorem dX7_stuck_8 : decode cX7_stuck 8 = .ok (.bipush (-2), 2) := by decide +kernel
theorem dX7_stuck_10 : decode cX7_stuck 10 = .ok (.ireturn, 1) := by decide +kernel
theorem dX7_stuck_11 : decode cX7_stuck 11 = .ok (.aload_n 0, 1) := by decide +kernel
theorem dX7_stuck_12 : decode cX7_stuck 12 = .ok (.invokevirtual 124, 3) := by decide +kernel
theorem dX7_stuck_15 : decode cX7_stuck 15 = .ok (.iconst 0, 1) := by decide +kernel
theorem dX7_stuck_16 : decode cX7_stuck 16 = .ok (.istore 4, 2) := by decide +kernel
theorem dX7_stuck_18 : decode cX7_stuck 18 = .ok (.iload_n 1, 1) := by decide +kernel
theorem dX7_stuck_19 : decode cX7_stuck 19 = .ok (.istore 5, 2) := by decide +kernel
theorem dX7_stuck_21 : decode cX7_stuck 21 = .ok (.iload 5, 2) := by decide +kernel
theorem dX7_stuck_23 : decode cX7_stuck 23 = .ok (.iload_n 2, 1) := by decide +kernel
theorem dX7_stuck_24 : decode cX7_stuck 24 = .ok (.if_icmp .gt 30, 3) := by decide +kernel
theorem dX7_stuck_27 : decode cX7_stuck 27 = .ok (.aload_n 0, 1) := by decide +kernel
theorem dX7_stuck_28 : decode cX7_stuck 28 = .ok (.iload 5, 2) := by decide +kernel
theorem dX7_stuck_30 : decode cX7_stuck 30 = .ok (.invokevirtual 127, 3) := by decide +kernel
theorem dX7_stuck_33 : decode cX7_stuck 33 = .ok (.ifCond .ne 15, 3) := by decide +kernel
theorem dX7_stuck_36 : decode cX7_stuck 36 = .ok (.iload 4, 2) := by decide +kernel
theorem dX7_stuck_38 : decode cX7_stuck 38 = .ok (.iload_n 3, 1) := by decide +kernel
theorem dX7_stuck_39 : decode cX7_stuck 39 = .ok (.if_icmp .ne 6, 3) := by decide +kernel
theorem dX7_stuck_42 : decode cX7_stuck 42 = .ok (.iload 5, 2) := by decide +kernel
theorem dX7_stuck_44 : decode cX7_stuck 44 = .ok (.ireturn, 1) := by decide +kernel
theorem dX7_stuck_45 : decode cX7_stuck 45 = .ok (.iinc 4 1, 3) := by decide +kernel
theorem dX7_stuck_48 : decode cX7_stuck 48 = .ok (.iinc 5 1, 3) := by decide +kernel
theorem dX7_stuck_51 : decode cX7_stuck 51 = .ok (.goto (-30), 3) := by decide +kernel
theorem dX7_stuck_54 : decode cX7_stuck 54 = .ok (.iload_n 3, 1) := by decide +kernel
theorem dX7_stuck_55 : decode cX7_stuck 55 = .ok (.iconst (-1), 1) := by decide +kernel
theorem dX7_stuck_56 : decode cX7_stuck 56 = .ok (.if_icmp .ne 8, 3) := by decide +kernel
theorem dX7_stuck_59 : decode cX7_stuck 59 = .ok (.iload 4, 2) := by decide +kernel
theorem dX7_stuck_61 : decode cX7_stuck 61 = .ok (.goto 5, 3) := by decide +kernel
theorem dX7_stuck_64 : decode cX7_stuck 64 = .ok (.bipush (-6), 2) := by decide +kernel
theorem dX7_stuck_66 : decode cX7_stuck 66 = .ok (.ireturn, 1) := by decide +kernel
theorem dX7_near_0 : decode cX7_near 0 = .ok (.iload_n 1, 1) := by decide +kernel
theorem dX7_near_1 : decode cX7_near 1 = .ok (.invokestatic 117, 3) := by decide +kernel
theorem dX7_near_4 : decode cX7_near 4 = .ok (.ifCond .eq 13, 3) := by decide +kernel
theorem dX7_near_7 : decode cX7_near 7 = .ok (.iload_n 2, 1) := by decide +kernel
theorem dX7_near_8 : decode cX7_near 8 = .ok (.i2l, 1) := by decide +kernel
theorem dX7_near_9 : decode cX7_near 9 = .ok (.lconst 0, 1) := by decide +kernel
theorem dX7_near_10 : decode cX7_near 10 = .ok (.lconst 1, 1) := by decide +kernel
theorem dX7_near_11 : decode cX7_near 11 = .ok (.invokestatic 67, 3) := by decide +kernel
theorem dX7_near_14 : decode cX7_near 14 = .ok (.ifCond .ne 6, 3) := by decide +kernel
theorem dX7_near_17 : decode cX7_near 17 = .ok (.bipush (-2), 2) := by decide +kernel
theorem dX7_near_19 : decode cX7_near 19 = .ok (.ireturn, 1) := by decide +kernel
theorem dX7_near_20 : decode cX7_near 20 = .ok (.aload_n 0, 1) := by decide +kernel
theorem dX7_near_21 : decode cX7_near 21 = .ok (.invokevirtual 124, 3) := by decide +kernel
theorem dX7_near_24 : decode cX7_near 24 = .ok (.iload_n 1, 1) := by decide +kernel
theorem dX7_near_25 : decode cX7_near 25 = .ok (.istore_n 3, 1) := by decide +kernel
theorem dX7_near_26 : decode cX7_near 26 = .ok (.iload_n 3, 1) := by decide +kernel
theorem dX7_near_27 : decode cX7_near 27 = .ok (.invokestatic 117, 3) := by decide +kernel
theorem dX7_near_30 : decode cX7_near 30 = .ok (.ifCond .eq 26, 3) := by decide +kernel
theorem dX7_near_33 : decode cX7_near 33 = .ok (.aload_n 0, 1) := by decide +kernel
theorem dX7_near_34 : decode cX7_near 34 = .ok (.iload_n 3, 1) := by decide +kernel
theorem dX7_near_35 : decode cX7_near 35 = .ok (.invokevirtual 127, 3) := by decide +kernel
theorem dX7_near_38 : decode cX7_near 38 = .ok (.ifCond .ne 18, 3) := by decide +kernel
theorem dX7_near_41 : decode cX7_near 41 = .ok (.iload_n 3, 1) := by decide +kernel
theorem dX7_near_42 : decode cX7_near 42 = .ok (.iload_n 2, 1) := by decide +kernel
theorem dX7_near_43 : decode cX7_near 43 = .ok (.ifCond .ne 7, 3) := by decide +kernel
theorem dX7_near_46 : decode cX7_near 46 = .ok (.iconst (-1), 1) := by decide +kernel
theorem dX7_near_47 : decode cX7_near 47 = .ok (.goto 4, 3) := by decide +kernel
theorem dX7_near_50 : decode cX7_near 50 = .ok (.iconst 1, 1) := by decide +kernel
theorem dX7_near_51 : decode cX7_near 51 = .ok (.iadd, 1) := by decide +kernel
theorem dX7_near_52 : decode cX7_near 52 = .ok (.istore_n 3, 1) := by decide +kernel
theorem dX7_near_53 : decode cX7_near 53 = .ok (.goto (-27), 3) := by decide +kernel
theorem dX7_near_56 : decode cX7_near 56 = .ok (.iload_n 3, 1) := by decide +kernel
theorem dX7_near_57 : decode cX7_near 57 = .ok (.invokestatic 117, 3) := by decide +kernel
theorem dX7_near_60 : decode cX7_near 60 = .ok (.ifCond .eq 7, 3) := by decide +kernel
theorem dX7_near_63 : decode cX7_near 63 = .ok (.iload_n 3, 1) := by decide +kernel
theorem dX7_near_64 : decode cX7_near 64 = .ok (.goto 5, 3) := by decide +kernel
theorem dX7_near_67 : decode cX7_near 67 = .ok (.bipush (-6), 2) := by decide +kernel
theorem dX7_near_69 : decode cX7_near 69 = .ok (.ireturn, 1) := by decide +kernel
theorem dX7_commonPart_0 : decode cX7_commonPart 0 = .ok (.iconst 0, 1) := by decide +kernel
theorem dX7_commonPart_1 : decode cX7_commonPart 1 = .ok (.istore_n 1, 1) := by decide +kernel
theorem dX7_commonPart_2 : decode cX7_commonPart 2 = .ok (.iconst 0, 1) := by decide +kernel
theorem dX7_commonPart_3 : decode cX7_commonPart 3 = .ok (.istore_n 2, 1) := by decide +kernel
theorem dX7_commonPart_4 : decode cX7_commonPart 4 = .ok (.iload_n 2, 1) := by decide +kernel
theorem dX7_commonPart_5 : decode cX7_commonPart 5 = .ok (.bipush 6, 2) := by decide +kernel
theorem dX7_commonPart_7 : decode cX7_commonPart 7 = .ok (.if_icmp .ge 33, 3) := by decide +kernel
theorem dX7_commonPart_10 : decode cX7_commonPart 10 = .ok (.aload_n 0, 1) := by decide +kernel
theorem dX7_commonPart_11 : decode cX7_commonPart 11 = .ok (.getfield 7, 3) := by decide +kernel
theorem dX7_commonPart_14 : decode cX7_commonPart 14 = .ok (.iload_n 2, 1) := by decide +kernel
theorem dX7_commonPart_15 : decode cX7_commonPart 15 = .ok (.iaload, 1) := by decide +kernel
theorem dX7_commonPart_16 : decode cX7_commonPart 16 = .ok (.istore_n 3, 1) := by decide +kernel
theorem dX7_commonPart_17 : decode cX7_commonPart 17 = .ok (.iload_n 3, 1) := by decide +kernel
theorem dX7_commonPart_18 : decode cX7_commonPart 18 = .ok (.ifCond .eq 16, 3) := by decide +kernel
theorem dX7_commonPart_21 : decode cX7_commonPart 21 = .ok (.iload_n 1, 1) := by decide +kernel
theorem dX7_commonPart_22 : decode cX7_commonPart 22 = .ok (.iload_n 3, 1) := by decide +kernel
theorem dX7_commonPart_23 : decode cX7_commonPart 23 = .ok (.irem, 1) := by decide +kernel
theorem dX7_commonPart_24 : decode cX7_commonPart 24 = .ok (.istore 4, 2) := by decide +kernel
theorem dX7_commonPart_26 : decode cX7_commonPart 26 = .ok (.iload_n 3, 1) := by decide +kernel
theorem dX7_commonPart_27 : decode cX7_commonPart 27 = .ok (.istore_n 1, 1) := by decide +kernel
theorem dX7_commonPart_28 : decode cX7_commonPart 28 = .ok (.iload 4, 2) := by decide +kernel
theorem dX7_commonPart_30 : decode cX7_commonPart 30 = .ok (.istore_n 3, 1) := by decide +kernel
theorem dX7_commonPart_31 : decode cX7_commonPart 31 = .ok (.goto (-14), 3) := by decide +kernel
theorem dX7_commonPart_34 : decode cX7_commonPart 34 = .ok (.iinc 2 1, 3) := by decide +kernel
theorem dX7_commonPart_37 : decode cX7_commonPart 37 = .ok (.goto (-33), 3) := by decide +kernel
theorem dX7_commonPart_40 : decode cX7_commonPart 40 = .ok (.iload_n 1, 1) := by decide +kernel
theorem dX7_commonPart_41 : decode cX7_commonPart 41 = .ok (.ireturn, 1) := by decide +kernel
theorem dX7_endless_0 : decode cX7_endless 0 = .ok (.iload_n 1, 1) := by decide +kernel
theorem dX7_endless_1 : decode cX7_endless 1 = .ok (.i2l, 1) := by decide +kernel
theorem dX7_endless_2 : decode cX7_endless 2 = .ok (.lconst 0, 1) := by decide +kernel
theorem dX7_endless_3 : decode cX7_endless 3 = .ok (.lconst 1, 1) := by decide +kernel
theorem dX7_endless_4 : decode cX7_endless 4 = .ok (.invokestatic 67, 3) := by decide +kernel
theorem dX7_endless_7 : decode cX7_endless 7 = .ok (.ifCond .ne 6, 3) := by decide +kernel
theorem dX7_endless_10 : decode cX7_endless 10 = .ok (.bipush (-2), 2) := by decide +kernel
theorem dX7_endless_12 : decode cX7_endless 12 = .ok (.ireturn, 1) := by decide +kernel
theorem dX7_endless_13 : decode cX7_endless 13 = .ok (.aload_n 0, 1) := by decide +kernel
theorem dX7_endless_14 : decode cX7_endless 14 = .ok (.invokevirtual 137, 3) := by decide +kernel
theorem dX7_endless_17 : decode cX7_endless 17 = .ok (.iconst 1, 1) := by decide +kernel
theorem dX7_endless_18 : decode cX7_endless 18 = .ok (.if_icmp .eq 6, 3) := by decide +kernel
theorem dX7_endless_21 : decode cX7_endless 21 = .ok (.bipush (-7), 2) := by decide +kernel
theorem dX7_endless_23 : decode cX7_endless 23 = .ok (.ireturn, 1) := by decide +kernel
theorem dX7_endless_24 : decode cX7_endless 24 = .ok (.bipush (-6), 2) := by decide +kernel
theorem dX7_endless_26 : decode cX7_endless 26 = .ok (.istore_n 2, 1) := by decide +kernel
theorem dX7_endless_27 : decode cX7_endless 27 = .ok (.iconst 0, 1) := by decide +kernel
theorem dX7_endless_28 : decode cX7_endless 28 = .ok (.istore_n 3, 1) := by decide +kernel
theorem dX7_endless_29 : decode cX7_endless 29 = .ok (.iconst 0, 1) := by decide +kernel
theorem dX7_endless_30 : decode cX7_endless 30 = .ok (.istore 4, 2) := by decide +kernel
theorem dX7_endless_32 : decode cX7_endless 32 = .ok (.iload 4, 2) := by decide +kernel
theorem dX7_endless_34 : decode cX7_endless 34 = .ok (.sipush 10000, 3) := by decide +kernel
theorem dX7_endless_37 : decode cX7_endless 37 = .ok (.if_icmp .ge 139, 3) := by decide +kernel
theorem dX7_endless_40 : decode cX7_endless 40 = .ok (.aload_n 0, 1) := by decide +kernel
theorem dX7_endless_41 : decode cX7_endless 41 = .ok (.getfield 46, 3) := by decide +kernel
theorem dX7_endless_44 : decode cX7_endless 44 = .ok (.iload 4, 2) := by decide +kernel
theorem dX7_endless_46 : decode cX7_endless 46 = .ok (.iload 4, 2) := by decide +kernel
theorem dX7_endless_48 : decode cX7_endless 48 = .ok (.ifCond .ne 7, 3) := by decide +kernel
theorem dX7_endless_51 : decode cX7_endless 51 = .ok (.iconst 1, 1) := by decide +kernel
theorem dX7_endless_52 : decode cX7_endless 52 = .ok (.goto 4, 3) := by decide +kernel
theorem dX7_endless_55 : decode cX7_endless 55 = .ok (.iconst 0, 1) := by decide +kernel
theorem dX7_endless_56 : decode cX7_endless 56 = .ok (.bastore, 1) := by decide +kernel
theorem dX7_endless_57 : decode cX7_endless 57 = .ok (.iconst 0, 1) := by decide +kernel
theorem dX7_endless_58 : decode cX7_endless 58 = .ok (.istore 5, 2) := by decide +kernel
theorem dX7_endless_60 : decode cX7_endless 60 = .ok (.iload 5, 2) := by decide +kernel
theorem dX7_endless_62 : decode cX7_endless 62 = .ok (.bipush 6, 2) := by decide +kernel
theorem dX7_endless_64 : decode cX7_endless 64 = .ok (.if_icmp .ge 71, 3) := by decide +kernel
theorem dX7_endless_67 : decode cX7_endless 67 = .ok (.aload_n 0, 1) := by decide +kernel
theorem dX7_endless_68 : decode cX7_endless 68 = .ok (.getfield 46, 3) := by decide +kernel
theorem dX7_endless_71 : decode cX7_endless 71 = .ok (.iload 4, 2) := by decide +kernel
theorem dX7_endless_73 : decode cX7_endless 73 = .ok (.aload_n 0, 1) := by decide +kernel
theorem dX7_endless_74 : decode cX7_endless 74 = .ok (.getfield 46, 3) := by decide +kernel
theorem dX7_endless_77 : decode cX7_endless 77 = .ok (.iload 4, 2) := by decide +kernel
theorem dX7_endless_79 : decode cX7_endless 79 = .ok (.baload, 1) := by decide +kernel
theorem dX7_endless_80 : decode cX7_endless 80 = .ok (.ifCond .ne 43, 3) := by decide +kernel
theorem dX7_endless_83 : decode cX7_endless 83 = .ok (.aload_n 0, 1) := by decide +kernel
theorem dX7_endless_84 : decode cX7_endless 84 = .ok (.getfield 7, 3) := by decide +kernel
theorem dX7_endless_87 : decode cX7_endless 87 = .ok (.iload 5, 2) := by decide +kernel
theorem dX7_endless_89 : decode cX7_endless 89 = .ok (.iaload, 1) := by decide +kernel
theorem dX7_endless_90 : decode cX7_endless 90 = .ok (.ifCond .le 37, 3) := by decide +kernel
theorem dX7_endless_93 : decode cX7_endless 93 = .ok (.iload 4, 2) := by decide +kernel
theorem dX7_endless_95 : decode cX7_endless 95 = .ok (.aload_n 0, 1) := by decide +kernel
theorem dX7_endless_96 : decode cX7_endless 96 = .ok (.getfield 7, 3) := by decide +kernel
theorem dX7_endless_99 : decode cX7_endless 99 = .ok (.iload 5, 2) := by decide +kernel
theorem dX7_endless_101 : decode cX7_endless 101 = .ok (.iaload, 1) := by decide +kernel
theorem dX7_endless_102 : decode cX7_endless 102 = .ok (.if_icmp .lt 25, 3) := by decide +kernel
theorem dX7_endless_105 : decode cX7_endless 105 = .ok (.aload_n 0, 1) := by decide +kernel
theorem dX7_endless_106 : decode cX7_endless 106 = .ok (.getfield 46, 3) := by decide +kernel
theorem dX7_endless_109 : decode cX7_endless 109 = .ok (.iload 4, 2) := by decide +kernel
theorem dX7_endless_111 : decode cX7_endless 111 = .ok (.aload_n 0, 1) := by decide +kernel
theorem dX7_endless_112 : decode cX7_endless 112 = .ok (.getfield 7, 3) := by decide +kernel
theorem dX7_endless_115 : decode cX7_endless 115 = .ok (.iload 5, 2) := by decide +kernel
theorem dX7_endless_117 : decode cX7_endless 117 = .ok (.iaload, 1) := by decide +kernel
theorem dX7_endless_118 : decode cX7_endless 118 = .ok (.isub, 1) := by decide +kernel
theorem dX7_endless_119 : decode cX7_endless 119 = .ok (.baload, 1) := by decide +kernel
theorem dX7_endless_120 : decode cX7_endless 120 = .ok (.ifCond .eq 7, 3) := by decide +kernel
theorem dX7_endless_123 : decode cX7_endless 123 = .ok (.iconst 1, 1) := by decide +kernel
theorem dX7_endless_124 : decode cX7_endless 124 = .ok (.goto 4, 3) := by decide +kernel
theorem dX7_endless_127 : decode cX7_endless 127 = .ok (.iconst 0, 1) := by decide +kernel
theorem dX7_endless_128 : decode cX7_endless 128 = .ok (.bastore, 1) := by decide +kernel
theorem dX7_endless_129 : decode cX7_endless 129 = .ok (.iinc 5 1, 3) := by decide +kernel
theorem dX7_endless_132 : decode cX7_endless 132 = .ok (.goto (-72), 3) := by decide +kernel
theorem dX7_endless_135 : decode cX7_endless 135 = .ok (.aload_n 0, 1) := by decide +kernel
theorem dX7_endless_136 : decode cX7_endless 136 = .ok (.getfield 46, 3) := by decide +kernel
theorem dX7_endless_139 : decode cX7_endless 139 = .ok (.iload 4, 2) := by decide +kernel
theorem dX7_endless_141 : decode cX7_endless 141 = .ok (.baload, 1) := by decide +kernel
theorem dX7_endless_142 : decode cX7_endless 142 = .ok (.ifCond .eq 7, 3) := by decide +kernel
theorem dX7_endless_145 : decode cX7_endless 145 = .ok (.iload_n 2, 1) := by decide +kernel
theorem dX7_endless_146 : decode cX7_endless 146 = .ok (.goto 5, 3) := by decide +kernel
theorem dX7_endless_149 : decode cX7_endless 149 = .ok (.iload 4, 2) := by decide +kernel
theorem dX7_endless_151 : decode cX7_endless 151 = .ok (.istore_n 2, 1) := by decide +kernel
theorem dX7_endless_152 : decode cX7_endless 152 = .ok (.iload_n 3, 1) := by decide +kernel
theorem dX7_endless_153 : decode cX7_endless 153 = .ok (.aload_n 0, 1) := by decide +kernel
theorem dX7_endless_154 : decode cX7_endless 154 = .ok (.getfield 46, 3) := by decide +kernel
theorem dX7_endless_157 : decode cX7_endless 157 = .ok (.iload 4, 2) := by decide +kernel
theorem dX7_endless_159 : decode cX7_endless 159 = .ok (.baload, 1) := by decide +kernel
theorem dX7_endless_160 : decode cX7_endless 160 = .ok (.ifCond .eq 7, 3) := by decide +kernel
theorem dX7_endless_163 : decode cX7_endless 163 = .ok (.iconst 0, 1) := by decide +kernel
theorem dX7_endless_164 : decode cX7_endless 164 = .ok (.goto 4, 3) := by decide +kernel
theorem dX7_endless_167 : decode cX7_endless 167 = .ok (.iconst 1, 1) := by decide +kernel
theorem dX7_endless_168 : decode cX7_endless 168 = .ok (.iadd, 1) := by decide +kernel
theorem dX7_endless_169 : decode cX7_endless 169 = .ok (.istore_n 3, 1) := by decide +kernel
theorem dX7_endless_170 : decode cX7_endless 170 = .ok (.iinc 4 1, 3) := by decide +kernel
theorem dX7_endless_173 : decode cX7_endless 173 = .ok (.goto (-141), 3) := by decide +kernel
theorem dX7_endless_176 : decode cX7_endless 176 = .ok (.iload_n 1, 1) := by decide +kernel
theorem dX7_endless_177 : decode cX7_endless 177 = .ok (.ifCond .ne 7, 3) := by decide +kernel
theorem dX7_endless_180 : decode cX7_endless 180 = .ok (.iload_n 2, 1) := by decide +kernel
theorem dX7_endless_181 : decode cX7_endless 181 = .ok (.goto 4, 3) := by decide +kernel
theorem dX7_endless_184 : decode cX7_endless 184 = .ok (.iload_n 3, 1) := by decide +kernel
theorem dX7_endless_185 : decode cX7_endless 185 = .ok (.ireturn, 1) := by decide +kernel
theorem dX7_pins_0 : decode cX7_pins 0 = .ok (.iload_n 1, 1) := by decide +kernel
theorem dX7_pins_1 : decode cX7_pins 1 = .ok (.invokestatic 117, 3) := by decide +kernel
theorem dX7_pins_4 : decode cX7_pins 4 = .ok (.ifCond .ne 6, 3) := by decide +kernel
theorem dX7_pins_7 : decode cX7_pins 7 = .ok (.bipush (-2), 2) := by decide +kernel
theorem dX7_pins_9 : decode cX7_pins 9 = .ok (.ireturn, 1) := by decide +kernel
theorem dX7_pins_10 : decode cX7_pins 10 = .ok (.aload_n 0, 1) := by decide +kernel
theorem dX7_pins_11 : decode cX7_pins 11 = .ok (.invokevirtual 124, 3) := by decide +kernel
theorem dX7_pins_14 : decode cX7_pins 14 = .ok (.iconst 0, 1) := by decide +kernel
theorem dX7_pins_15 : decode cX7_pins 15 = .ok (.istore_n 2, 1) := by decide +kernel
theorem dX7_pins_16 : decode cX7_pins 16 = .ok (.iload_n 2, 1) := by decide +kernel
theorem dX7_pins_17 : decode cX7_pins 17 = .ok (.bipush 100, 2) := by decide +kernel
theorem dX7_pins_19 : decode cX7_pins 19 = .ok (.if_icmp .ge 21, 3) := by decide +kernel
theorem dX7_pins_22 : decode cX7_pins 22 = .ok (.aload_n 0, 1) := by decide +kernel
theorem dX7_pins_23 : decode cX7_pins 23 = .ok (.iload_n 1, 1) := by decide +kernel
theorem dX7_pins_24 : decode cX7_pins 24 = .ok (.iload_n 2, 1) := by decide +kernel
theorem dX7_pins_25 : decode cX7_pins 25 = .ok (.isub, 1) := by decide +kernel
theorem dX7_pins_26 : decode cX7_pins 26 = .ok (.invokevirtual 127, 3) := by decide +kernel
theorem dX7_pins_29 : decode cX7_pins 29 = .ok (.ifCond .eq 5, 3) := by decide +kernel
theorem dX7_pins_32 : decode cX7_pins 32 = .ok (.iload_n 2, 1) := by decide +kernel
theorem dX7_pins_33 : decode cX7_pins 33 = .ok (.ireturn, 1) := by decide +kernel
theorem dX7_pins_34 : decode cX7_pins 34 = .ok (.iinc 2 1, 3) := by decide +kernel
theorem dX7_pins_37 : decode cX7_pins 37 = .ok (.goto (-21), 3) := by decide +kernel
theorem dX7_pins_40 : decode cX7_pins 40 = .ok (.bipush (-6), 2) := by decide +kernel
theorem dX7_pins_42 : decode cX7_pins 42 = .ok (.ireturn, 1) := by decide +kernel
theorem dX7_weeks_0 : decode cX7_weeks 0 = .ok (.iload_n 1, 1) := by decide +kernel
theorem dX7_weeks_1 : decode cX7_weeks 1 = .ok (.invokestatic 117, 3) := by decide +kernel
theorem dX7_weeks_4 : decode cX7_weeks 4 = .ok (.ifCond .eq 15, 3) := by decide +kernel
theorem dX7_weeks_7 : decode cX7_weeks 7 = .ok (.iload_n 2, 1) := by decide +kernel
theorem dX7_weeks_8 : decode cX7_weeks 8 = .ok (.i2l, 1) := by decide +kernel
theorem dX7_weeks_9 : decode cX7_weeks 9 = .ok (.lconst 1, 1) := by decide +kernel
theorem dX7_weeks_10 : decode cX7_weeks 10 = .ok (.ldc2_w 71, 3) := by decide +kernel
theorem dX7_weeks_13 : decode cX7_weeks 13 = .ok (.invokestatic 67, 3) := by decide +kernel
theorem dX7_weeks_16 : decode cX7_weeks 16 = .ok (.ifCond .ne 6, 3) := by decide +kernel
theorem dX7_weeks_19 : decode cX7_weeks 19 = .ok (.bipush (-2), 2) := by decide +kernel
theorem dX7_weeks_21 : decode cX7_weeks 21 = .ok (.ireturn, 1) := by decide +kernel
theorem dX7_weeks_22 : decode cX7_weeks 22 = .ok (.aload_n 0, 1) := by decide +kernel
theorem dX7_weeks_23 : decode cX7_weeks 23 = .ok (.invokevirtual 124, 3) := by decide +kernel
theorem dX7_weeks_26 : decode cX7_weeks 26 = .ok (.iconst 0, 1) := by decide +kernel
theorem dX7_weeks_27 : decode cX7_weeks 27 = .ok (.istore_n 3, 1) := by decide +kernel
theorem dX7_weeks_28 : decode cX7_weeks 28 = .ok (.iload_n 3, 1) := by decide +kernel
theorem dX7_weeks_29 : decode cX7_weeks 29 = .ok (.bipush 100, 2) := by decide +kernel
theorem dX7_weeks_31 : decode cX7_weeks 31 = .ok (.if_icmp .ge 23, 3) := by decide +kernel
theorem dX7_weeks_34 : decode cX7_weeks 34 = .ok (.aload_n 0, 1) := by decide +kernel
theorem dX7_weeks_35 : decode cX7_weeks 35 = .ok (.iload_n 1, 1) := by decide +kernel
theorem dX7_weeks_36 : decode cX7_weeks 36 = .ok (.iload_n 3, 1) := by decide +kernel
theorem dX7_weeks_37 : decode cX7_weeks 37 = .ok (.iload_n 2, 1) := by decide +kernel
theorem dX7_weeks_38 : decode cX7_weeks 38 = .ok (.imul, 1) := by decide +kernel
theorem dX7_weeks_39 : decode cX7_weeks 39 = .ok (.iadd, 1) := by decide +kernel
theorem dX7_weeks_40 : decode cX7_weeks 40 = .ok (.invokevirtual 127, 3) := by decide +kernel
theorem dX7_weeks_43 : decode cX7_weeks 43 = .ok (.ifCond .eq 5, 3) := by decide +kernel
theorem dX7_weeks_46 : decode cX7_weeks 46 = .ok (.iload_n 3, 1) := by decide +kernel
theorem dX7_weeks_47 : decode cX7_weeks 47 = .ok (.ireturn, 1) := by decide +kernel
theorem dX7_weeks_48 : decode cX7_weeks 48 = .ok (.iinc 3 1, 3) := by decide +kernel
theorem dX7_weeks_51 : decode cX7_weeks 51 = .ok (.goto (-23), 3) := by decide +kernel
theorem dX7_weeks_54 : decode cX7_weeks 54 = .ok (.bipush (-6), 2) := by decide +kernel
theorem dX7_weeks_56 : decode cX7_weeks 56 = .ok (.ireturn, 1) := by decide +kernel
theorem dX7_isPurse_0 : decode cX7_isPurse 0 = .ok (.iload_n 0, 1) := by decide +kernel
theorem dX7_isPurse_1 : decode cX7_isPurse 1 = .ok (.i2l, 1) := by decide +kernel
theorem dX7_isPurse_2 : decode cX7_isPurse 2 = .ok (.lconst 0, 1) := by decide +kernel
theorem dX7_isPurse_3 : decode cX7_isPurse 3 = .ok (.ldc2_w 140, 3) := by decide +kernel
theorem dX7_isPurse_6 : decode cX7_isPurse 6 = .ok (.invokestatic 67, 3) := by decide +kernel
theorem dX7_isPurse_9 : decode cX7_isPurse 9 = .ok (.ireturn, 1) := by decide +kernel
theorem dX7_isThere_0 : decode cX7_isThere 0 = .ok (.iload_n 1, 1) := by decide +kernel
theorem dX7_isThere_1 : decode cX7_isThere 1 = .ok (.invokestatic 142, 3) := by decide +kernel
theorem dX7_isThere_4 : decode cX7_isThere 4 = .ok (.ifCond .eq 16, 3) := by decide +kernel
theorem dX7_isThere_7 : decode cX7_isThere 7 = .ok (.aload_n 0, 1) := by decide +kernel
theorem dX7_isThere_8 : decode cX7_isThere 8 = .ok (.getfield 22, 3) := by decide +kernel
theorem dX7_isThere_11 : decode cX7_isThere 11 = .ok (.iload_n 1, 1) := by decide +kernel
theorem dX7_isThere_12 : decode cX7_isThere 12 = .ok (.iaload, 1) := by decide +kernel
theorem dX7_isThere_13 : decode cX7_isThere 13 = .ok (.ifCond .lt 7, 3) := by decide +kernel
theorem dX7_isThere_16 : decode cX7_isThere 16 = .ok (.iconst 1, 1) := by decide +kernel
theorem dX7_isThere_17 : decode cX7_isThere 17 = .ok (.goto 4, 3) := by decide +kernel
theorem dX7_isThere_20 : decode cX7_isThere 20 = .ok (.iconst 0, 1) := by decide +kernel
theorem dX7_isThere_21 : decode cX7_isThere 21 = .ok (.ireturn, 1) := by decide +kernel
theorem dX7_purse_0 : decode cX7_purse 0 = .ok (.iload_n 1, 1) := by decide +kernel
theorem dX7_purse_1 : decode cX7_purse 1 = .ok (.invokestatic 142, 3) := by decide +kernel
theorem dX7_purse_4 : decode cX7_purse 4 = .ok (.ifCond .ne 5, 3) := by decide +kernel
theorem dX7_purse_7 : decode cX7_purse 7 = .ok (.iconst (-1), 1) := by decide +kernel
theorem dX7_purse_8 : decode cX7_purse 8 = .ok (.ireturn, 1) := by decide +kernel
theorem dX7_purse_9 : decode cX7_purse 9 = .ok (.iload_n 2, 1) := by decide +kernel
theorem dX7_purse_10 : decode cX7_purse 10 = .ok (.i2l, 1) := by decide +kernel
theorem dX7_purse_11 : decode cX7_purse 11 = .ok (.ldc2_w 145, 3) := by decide +kernel
theorem dX7_purse_14 : decode cX7_purse 14 = .ok (.ldc2_w 71, 3) := by decide +kernel
theorem dX7_purse_17 : decode cX7_purse 17 = .ok (.invokestatic 67, 3) := by decide +kernel
theorem dX7_purse_20 : decode cX7_purse 20 = .ok (.ifCond .ne 6, 3) := by decide +kernel
theorem dX7_purse_23 : decode cX7_purse 23 = .ok (.bipush (-2), 2) := by decide +kernel
theorem dX7_purse_25 : decode cX7_purse 25 = .ok (.ireturn, 1) := by decide +kernel
theorem dX7_purse_26 : decode cX7_purse 26 = .ok (.aload_n 0, 1) := by decide +kernel
theorem dX7_purse_27 : decode cX7_purse 27 = .ok (.getfield 22, 3) := by decide +kernel
theorem dX7_purse_30 : decode cX7_purse 30 = .ok (.iload_n 1, 1) := by decide +kernel
theorem dX7_purse_31 : decode cX7_purse 31 = .ok (.iload_n 2, 1) := by decide +kernel
theorem dX7_purse_32 : decode cX7_purse 32 = .ok (.iastore, 1) := by decide +kernel
theorem dX7_purse_33 : decode cX7_purse 33 = .ok (.iconst 1, 1) := by decide +kernel
theorem dX7_purse_34 : decode cX7_purse 34 = .ok (.ireturn, 1) := by decide +kernel
theorem dX7_layGroups_0 : decode cX7_layGroups 0 = .ok (.iconst 1, 1) := by decide +kernel
theorem dX7_layGroups_1 : decode cX7_layGroups 1 = .ok (.istore_n 2, 1) := by decide +kernel
theorem dX7_layGroups_2 : decode cX7_layGroups 2 = .ok (.iconst 0, 1) := by decide +kernel
theorem dX7_layGroups_3 : decode cX7_layGroups 3 = .ok (.istore_n 3, 1) := by decide +kernel
theorem dX7_layGroups_4 : decode cX7_layGroups 4 = .ok (.iload_n 3, 1) := by decide +kernel
theorem dX7_layGroups_5 : decode cX7_layGroups 5 = .ok (.iconst 4, 1) := by decide +kernel
theorem dX7_layGroups_6 : decode cX7_layGroups 6 = .ok (.if_icmp .ge 96, 3) := by decide +kernel
theorem dX7_layGroups_9 : decode cX7_layGroups 9 = .ok (.aload_n 0, 1) := by decide +kernel
theorem dX7_layGroups_10 : decode cX7_layGroups 10 = .ok (.getfield 50, 3) := by decide +kernel
theorem dX7_layGroups_13 : decode cX7_layGroups 13 = .ok (.iload_n 3, 1) := by decide +kernel
theorem dX7_layGroups_14 : decode cX7_layGroups 14 = .ok (.iload_n 1, 1) := by decide +kernel
theorem dX7_layGroups_15 : decode cX7_layGroups 15 = .ok (.iconst 2, 1) := by decide +kernel
theorem dX7_layGroups_16 : decode cX7_layGroups 16 = .ok (.iload_n 3, 1) := by decide +kernel
theorem dX7_layGroups_17 : decode cX7_layGroups 17 = .ok (.imul, 1) := by decide +kernel
theorem dX7_layGroups_18 : decode cX7_layGroups 18 = .ok (.ishr, 1) := by decide +kernel
theorem dX7_layGroups_19 : decode cX7_layGroups 19 = .ok (.iconst 3, 1) := by decide +kernel
theorem dX7_layGroups_20 : decode cX7_layGroups 20 = .ok (.iand, 1) := by decide +kernel
theorem dX7_layGroups_21 : decode cX7_layGroups 21 = .ok (.iastore, 1) := by decide +kernel
theorem dX7_layGroups_22 : decode cX7_layGroups 22 = .ok (.iload_n 2, 1) := by decide +kernel
theorem dX7_layGroups_23 : decode cX7_layGroups 23 = .ok (.ifCond .eq 71, 3) := by decide +kernel
theorem dX7_layGroups_26 : decode cX7_layGroups 26 = .ok (.aload_n 0, 1) := by decide +kernel
theorem dX7_layGroups_27 : decode cX7_layGroups 27 = .ok (.iload_n 3, 1) := by decide +kernel
theorem dX7_layGroups_28 : decode cX7_layGroups 28 = .ok (.invokevirtual 147, 3) := by decide +kernel
theorem dX7_layGroups_31 : decode cX7_layGroups 31 = .ok (.ifCond .eq 49, 3) := by decide +kernel
theorem dX7_layGroups_34 : decode cX7_layGroups 34 = .ok (.aload_n 0, 1) := by decide +kernel
theorem dX7_layGroups_35 : decode cX7_layGroups 35 = .ok (.getfield 50, 3) := by decide +kernel
theorem dX7_layGroups_38 : decode cX7_layGroups 38 = .ok (.iload_n 3, 1) := by decide +kernel
theorem dX7_layGroups_39 : decode cX7_layGroups 39 = .ok (.iaload, 1) := by decide +kernel
theorem dX7_layGroups_40 : decode cX7_layGroups 40 = .ok (.iload_n 3, 1) := by decide +kernel
theorem dX7_layGroups_41 : decode cX7_layGroups 41 = .ok (.if_icmp .gt 53, 3) := by decide +kernel
theorem dX7_layGroups_44 : decode cX7_layGroups 44 = .ok (.aload_n 0, 1) := by decide +kernel
theorem dX7_layGroups_45 : decode cX7_layGroups 45 = .ok (.getfield 50, 3) := by decide +kernel
theorem dX7_layGroups_48 : decode cX7_layGroups 48 = .ok (.aload_n 0, 1) := by decide +kernel
theorem dX7_layGroups_49 : decode cX7_layGroups 49 = .ok (.getfield 50, 3) := by decide +kernel
theorem dX7_layGroups_52 : decode cX7_layGroups 52 = .ok (.iload_n 3, 1) := by decide +kernel
theorem dX7_layGroups_53 : decode cX7_layGroups 53 = .ok (.iaload, 1) := by decide +kernel
theorem dX7_layGroups_54 : decode cX7_layGroups 54 = .ok (.iaload, 1) := by decide +kernel
theorem dX7_layGroups_55 : decode cX7_layGroups 55 = .ok (.aload_n 0, 1) := by decide +kernel
theorem dX7_layGroups_56 : decode cX7_layGroups 56 = .ok (.getfield 50, 3) := by decide +kernel
theorem dX7_layGroups_59 : decode cX7_layGroups 59 = .ok (.iload_n 3, 1) := by decide +kernel
theorem dX7_layGroups_60 : decode cX7_layGroups 60 = .ok (.iaload, 1) := by decide +kernel
theorem dX7_layGroups_61 : decode cX7_layGroups 61 = .ok (.if_icmp .ne 33, 3) := by decide +kernel
theorem dX7_layGroups_64 : decode cX7_layGroups 64 = .ok (.aload_n 0, 1) := by decide +kernel
theorem dX7_layGroups_65 : decode cX7_layGroups 65 = .ok (.aload_n 0, 1) := by decide +kernel
theorem dX7_layGroups_66 : decode cX7_layGroups 66 = .ok (.getfield 50, 3) := by decide +kernel
theorem dX7_layGroups_69 : decode cX7_layGroups 69 = .ok (.iload_n 3, 1) := by decide +kernel
theorem dX7_layGroups_70 : decode cX7_layGroups 70 = .ok (.iaload, 1) := by decide +kernel
theorem dX7_layGroups_71 : decode cX7_layGroups 71 = .ok (.invokevirtual 147, 3) := by decide +kernel
theorem dX7_layGroups_74 : decode cX7_layGroups 74 = .ok (.ifCond .eq 20, 3) := by decide +kernel
theorem dX7_layGroups_77 : decode cX7_layGroups 77 = .ok (.goto 13, 3) := by decide +kernel
theorem dX7_layGroups_80 : decode cX7_layGroups 80 = .ok (.aload_n 0, 1) := by decide +kernel
theorem dX7_layGroups_81 : decode cX7_layGroups 81 = .ok (.getfield 50, 3) := by decide +kernel
theorem dX7_layGroups_84 : decode cX7_layGroups 84 = .ok (.iload_n 3, 1) := by decide +kernel
theorem dX7_layGroups_85 : decode cX7_layGroups 85 = .ok (.iaload, 1) := by decide +kernel
theorem dX7_layGroups_86 : decode cX7_layGroups 86 = .ok (.iload_n 3, 1) := by decide +kernel
theorem dX7_layGroups_87 : decode cX7_layGroups 87 = .ok (.if_icmp .ne 7, 3) := by decide +kernel
theorem dX7_layGroups_90 : decode cX7_layGroups 90 = .ok (.iconst 1, 1) := by decide +kernel
theorem dX7_layGroups_91 : decode cX7_layGroups 91 = .ok (.goto 4, 3) := by decide +kernel
theorem dX7_layGroups_94 : decode cX7_layGroups 94 = .ok (.iconst 0, 1) := by decide +kernel
theorem dX7_layGroups_95 : decode cX7_layGroups 95 = .ok (.istore_n 2, 1) := by decide +kernel
theorem dX7_layGroups_96 : decode cX7_layGroups 96 = .ok (.iinc 3 1, 3) := by decide +kernel
theorem dX7_layGroups_99 : decode cX7_layGroups 99 = .ok (.goto (-95), 3) := by decide +kernel
theorem dX7_layGroups_102 : decode cX7_layGroups 102 = .ok (.iload_n 2, 1) := by decide +kernel
theorem dX7_layGroups_103 : decode cX7_layGroups 103 = .ok (.ireturn, 1) := by decide +kernel
theorem dX7_groupOf_0 : decode cX7_groupOf 0 = .ok (.iconst 0, 1) := by decide +kernel
theorem dX7_groupOf_1 : decode cX7_groupOf 1 = .ok (.istore_n 2, 1) := by decide +kernel
theorem dX7_groupOf_2 : decode cX7_groupOf 2 = .ok (.iconst 0, 1) := by decide +kernel
theorem dX7_groupOf_3 : decode cX7_groupOf 3 = .ok (.istore_n 3, 1) := by decide +kernel
theorem dX7_groupOf_4 : decode cX7_groupOf 4 = .ok (.iload_n 3, 1) := by decide +kernel
theorem dX7_groupOf_5 : decode cX7_groupOf 5 = .ok (.iconst 4, 1) := by decide +kernel
theorem dX7_groupOf_6 : decode cX7_groupOf 6 = .ok (.if_icmp .ge 37, 3) := by decide +kernel
theorem dX7_groupOf_9 : decode cX7_groupOf 9 = .ok (.iload_n 2, 1) := by decide +kernel
theorem dX7_groupOf_10 : decode cX7_groupOf 10 = .ok (.aload_n 0, 1) := by decide +kernel
theorem dX7_groupOf_11 : decode cX7_groupOf 11 = .ok (.iload_n 3, 1) := by decide +kernel
theorem dX7_groupOf_12 : decode cX7_groupOf 12 = .ok (.invokevirtual 147, 3) := by decide +kernel
theorem dX7_groupOf_15 : decode cX7_groupOf 15 = .ok (.ifCond .eq 19, 3) := by decide +kernel
theorem dX7_groupOf_18 : decode cX7_groupOf 18 = .ok (.aload_n 0, 1) := by decide +kernel
theorem dX7_groupOf_19 : decode cX7_groupOf 19 = .ok (.getfield 50, 3) := by decide +kernel
theorem dX7_groupOf_22 : decode cX7_groupOf 22 = .ok (.iload_n 3, 1) := by decide +kernel
theorem dX7_groupOf_23 : decode cX7_groupOf 23 = .ok (.iaload, 1) := by decide +kernel
theorem dX7_groupOf_24 : decode cX7_groupOf 24 = .ok (.iload_n 1, 1) := by decide +kernel
theorem dX7_groupOf_25 : decode cX7_groupOf 25 = .ok (.if_icmp .ne 9, 3) := by decide +kernel
theorem dX7_groupOf_28 : decode cX7_groupOf 28 = .ok (.iconst 1, 1) := by decide +kernel
theorem dX7_groupOf_29 : decode cX7_groupOf 29 = .ok (.iload_n 3, 1) := by decide +kernel
theorem dX7_groupOf_30 : decode cX7_groupOf 30 = .ok (.ishl, 1) := by decide +kernel
theorem dX7_groupOf_31 : decode cX7_groupOf 31 = .ok (.goto 4, 3) := by decide +kernel
theorem dX7_groupOf_34 : decode cX7_groupOf 34 = .ok (.iconst 0, 1) := by decide +kernel
theorem dX7_groupOf_35 : decode cX7_groupOf 35 = .ok (.ior, 1) := by decide +kernel
theorem dX7_groupOf_36 : decode cX7_groupOf 36 = .ok (.istore_n 2, 1) := by decide +kernel
theorem dX7_groupOf_37 : decode cX7_groupOf 37 = .ok (.iinc 3 1, 3) := by decide +kernel
theorem dX7_groupOf_40 : decode cX7_groupOf 40 = .ok (.goto (-36), 3) := by decide +kernel
theorem dX7_groupOf_43 : decode cX7_groupOf 43 = .ok (.iload_n 2, 1) := by decide +kernel
theorem dX7_groupOf_44 : decode cX7_groupOf 44 = .ok (.ireturn, 1) := by decide +kernel
theorem dX7_bestGroupOf_0 : decode cX7_bestGroupOf 0 = .ok (.iconst 0, 1) := by decide +kernel
theorem dX7_bestGroupOf_1 : decode cX7_bestGroupOf 1 = .ok (.istore_n 2, 1) := by decide +kernel
theorem dX7_bestGroupOf_2 : decode cX7_bestGroupOf 2 = .ok (.iconst 0, 1) := by decide +kernel
theorem dX7_bestGroupOf_3 : decode cX7_bestGroupOf 3 = .ok (.istore_n 3, 1) := by decide +kernel
theorem dX7_bestGroupOf_4 : decode cX7_bestGroupOf 4 = .ok (.iload_n 3, 1) := by decide +kernel
theorem dX7_bestGroupOf_5 : decode cX7_bestGroupOf 5 = .ok (.iconst 4, 1) := by decide +kernel
theorem dX7_bestGroupOf_6 : decode cX7_bestGroupOf 6 = .ok (.if_icmp .ge 37, 3) := by decide +kernel
theorem dX7_bestGroupOf_9 : decode cX7_bestGroupOf 9 = .ok (.iload_n 2, 1) := by decide +kernel
theorem dX7_bestGroupOf_10 : decode cX7_bestGroupOf 10 = .ok (.aload_n 0, 1) := by decide +kernel
theorem dX7_bestGroupOf_11 : decode cX7_bestGroupOf 11 = .ok (.iload_n 3, 1) := by decide +kernel
theorem dX7_bestGroupOf_12 : decode cX7_bestGroupOf 12 = .ok (.invokevirtual 147, 3) := by decide +kernel
theorem dX7_bestGroupOf_15 : decode cX7_bestGroupOf 15 = .ok (.ifCond .eq 19, 3) := by decide +kernel
theorem dX7_bestGroupOf_18 : decode cX7_bestGroupOf 18 = .ok (.aload_n 0, 1) := by decide +kernel
theorem dX7_bestGroupOf_19 : decode cX7_bestGroupOf 19 = .ok (.getfield 53, 3) := by decide +kernel
theorem dX7_bestGroupOf_22 : decode cX7_bestGroupOf 22 = .ok (.iload_n 3, 1) := by decide +kernel
theorem dX7_bestGroupOf_23 : decode cX7_bestGroupOf 23 = .ok (.iaload, 1) := by decide +kernel
theorem dX7_bestGroupOf_24 : decode cX7_bestGroupOf 24 = .ok (.iload_n 1, 1) := by decide +kernel
theorem dX7_bestGroupOf_25 : decode cX7_bestGroupOf 25 = .ok (.if_icmp .ne 9, 3) := by decide +kernel
theorem dX7_bestGroupOf_28 : decode cX7_bestGroupOf 28 = .ok (.iconst 1, 1) := by decide +kernel
theorem dX7_bestGroupOf_29 : decode cX7_bestGroupOf 29 = .ok (.iload_n 3, 1) := by decide +kernel
theorem dX7_bestGroupOf_30 : decode cX7_bestGroupOf 30 = .ok (.ishl, 1) := by decide +kernel
theorem dX7_bestGroupOf_31 : decode cX7_bestGroupOf 31 = .ok (.goto 4, 3) := by decide +kernel
theorem dX7_bestGroupOf_34 : decode cX7_bestGroupOf 34 = .ok (.iconst 0, 1) := by decide +kernel
theorem dX7_bestGroupOf_35 : decode cX7_bestGroupOf 35 = .ok (.ior, 1) := by decide +kernel
theorem dX7_bestGroupOf_36 : decode cX7_bestGroupOf 36 = .ok (.istore_n 2, 1) := by decide +kernel
theorem dX7_bestGroupOf_37 : decode cX7_bestGroupOf 37 = .ok (.iinc 3 1, 3) := by decide +kernel
theorem dX7_bestGroupOf_40 : decode cX7_bestGroupOf 40 = .ok (.goto (-36), 3) := by decide +kernel
theorem dX7_bestGroupOf_43 : decode cX7_bestGroupOf 43 = .ok (.iload_n 2, 1) := by decide +kernel
theorem dX7_bestGroupOf_44 : decode cX7_bestGroupOf 44 = .ok (.ireturn, 1) := by decide +kernel
theorem dX7_hasOf_0 : decode cX7_hasOf 0 = .ok (.iconst 0, 1) := by decide +kernel
theorem dX7_hasOf_1 : decode cX7_hasOf 1 = .ok (.istore_n 2, 1) := by decide +kernel
theorem dX7_hasOf_2 : decode cX7_hasOf 2 = .ok (.iconst 0, 1) := by decide +kernel
theorem dX7_hasOf_3 : decode cX7_hasOf 3 = .ok (.istore_n 3, 1) := by decide +kernel
theorem dX7_hasOf_4 : decode cX7_hasOf 4 = .ok (.iconst 0, 1) := by decide +kernel
theorem dX7_hasOf_5 : decode cX7_hasOf 5 = .ok (.istore 4, 2) := by decide +kernel
theorem dX7_hasOf_7 : decode cX7_hasOf 7 = .ok (.iload 4, 2) := by decide +kernel
theorem dX7_hasOf_9 : decode cX7_hasOf 9 = .ok (.iconst 4, 1) := by decide +kernel
theorem dX7_hasOf_10 : decode cX7_hasOf 10 = .ok (.if_icmp .ge 42, 3) := by decide +kernel
theorem dX7_hasOf_13 : decode cX7_hasOf 13 = .ok (.iload_n 2, 1) := by decide +kernel
theorem dX7_hasOf_14 : decode cX7_hasOf 14 = .ok (.iload_n 1, 1) := by decide +kernel
theorem dX7_hasOf_15 : decode cX7_hasOf 15 = .ok (.iload 4, 2) := by decide +kernel
theorem dX7_hasOf_17 : decode cX7_hasOf 17 = .ok (.ishr, 1) := by decide +kernel
theorem dX7_hasOf_18 : decode cX7_hasOf 18 = .ok (.iconst 1, 1) := by decide +kernel
theorem dX7_hasOf_19 : decode cX7_hasOf 19 = .ok (.iand, 1) := by decide +kernel
theorem dX7_hasOf_20 : decode cX7_hasOf 20 = .ok (.iconst 1, 1) := by decide +kernel
theorem dX7_hasOf_21 : decode cX7_hasOf 21 = .ok (.if_icmp .ne 13, 3) := by decide +kernel
theorem dX7_hasOf_24 : decode cX7_hasOf 24 = .ok (.aload_n 0, 1) := by decide +kernel
theorem dX7_hasOf_25 : decode cX7_hasOf 25 = .ok (.getfield 22, 3) := by decide +kernel
theorem dX7_hasOf_28 : decode cX7_hasOf 28 = .ok (.iload 4, 2) := by decide +kernel
theorem dX7_hasOf_30 : decode cX7_hasOf 30 = .ok (.iaload, 1) := by decide +kernel
theorem dX7_hasOf_31 : decode cX7_hasOf 31 = .ok (.goto 4, 3) := by decide +kernel
theorem dX7_hasOf_34 : decode cX7_hasOf 34 = .ok (.iconst 0, 1) := by decide +kernel
theorem dX7_hasOf_35 : decode cX7_hasOf 35 = .ok (.iadd, 1) := by decide +kernel
theorem dX7_hasOf_36 : decode cX7_hasOf 36 = .ok (.istore_n 2, 1) := by decide +kernel
theorem dX7_hasOf_37 : decode cX7_hasOf 37 = .ok (.iload_n 3, 1) := by decide +kernel
theorem dX7_hasOf_38 : decode cX7_hasOf 38 = .ok (.iload_n 1, 1) := by decide +kernel
theorem dX7_hasOf_39 : decode cX7_hasOf 39 = .ok (.iload 4, 2) := by decide +kernel
theorem dX7_hasOf_41 : decode cX7_hasOf 41 = .ok (.ishr, 1) := by decide +kernel
theorem dX7_hasOf_42 : decode cX7_hasOf 42 = .ok (.iconst 1, 1) := by decide +kernel
theorem dX7_hasOf_43 : decode cX7_hasOf 43 = .ok (.iand, 1) := by decide +kernel
theorem dX7_hasOf_44 : decode cX7_hasOf 44 = .ok (.iadd, 1) := by decide +kernel
theorem dX7_hasOf_45 : decode cX7_hasOf 45 = .ok (.istore_n 3, 1) := by decide +kernel
theorem dX7_hasOf_46 : decode cX7_hasOf 46 = .ok (.iinc 4 1, 3) := by decide +kernel
theorem dX7_hasOf_49 : decode cX7_hasOf 49 = .ok (.goto (-42), 3) := by decide +kernel
theorem dX7_hasOf_52 : decode cX7_hasOf 52 = .ok (.aload_n 0, 1) := by decide +kernel
theorem dX7_hasOf_53 : decode cX7_hasOf 53 = .ok (.iload_n 2, 1) := by decide +kernel
theorem dX7_hasOf_54 : decode cX7_hasOf 54 = .ok (.invokevirtual 127, 3) := by decide +kernel
theorem dX7_hasOf_57 : decode cX7_hasOf 57 = .ok (.ifCond .eq 12, 3) := by decide +kernel
theorem dX7_hasOf_60 : decode cX7_hasOf 60 = .ok (.aload_n 0, 1) := by decide +kernel
theorem dX7_hasOf_61 : decode cX7_hasOf 61 = .ok (.getfield 40, 3) := by decide +kernel
theorem dX7_hasOf_64 : decode cX7_hasOf 64 = .ok (.iload_n 2, 1) := by decide +kernel
theorem dX7_hasOf_65 : decode cX7_hasOf 65 = .ok (.iaload, 1) := by decide +kernel
theorem dX7_hasOf_66 : decode cX7_hasOf 66 = .ok (.goto 14, 3) := by decide +kernel
theorem dX7_hasOf_69 : decode cX7_hasOf 69 = .ok (.iload_n 3, 1) := by decide +kernel
theorem dX7_hasOf_70 : decode cX7_hasOf 70 = .ok (.iconst 1, 1) := by decide +kernel
theorem dX7_hasOf_71 : decode cX7_hasOf 71 = .ok (.if_icmp .ne 7, 3) := by decide +kernel
theorem dX7_hasOf_74 : decode cX7_hasOf 74 = .ok (.iconst 0, 1) := by decide +kernel
theorem dX7_hasOf_75 : decode cX7_hasOf 75 = .ok (.goto 5, 3) := by decide +kernel
theorem dX7_hasOf_78 : decode cX7_hasOf 78 = .ok (.bipush (-6), 2) := by decide +kernel
theorem dX7_hasOf_80 : decode cX7_hasOf 80 = .ok (.ireturn, 1) := by decide +kernel
theorem dX7_hasAll_0 : decode cX7_hasAll 0 = .ok (.iconst 0, 1) := by decide +kernel
theorem dX7_hasAll_1 : decode cX7_hasAll 1 = .ok (.istore_n 1, 1) := by decide +kernel
theorem dX7_hasAll_2 : decode cX7_hasAll 2 = .ok (.iconst 0, 1) := by decide +kernel
theorem dX7_hasAll_3 : decode cX7_hasAll 3 = .ok (.istore_n 2, 1) := by decide +kernel
theorem dX7_hasAll_4 : decode cX7_hasAll 4 = .ok (.iload_n 2, 1) := by decide +kernel
theorem dX7_hasAll_5 : decode cX7_hasAll 5 = .ok (.iconst 4, 1) := by decide +kernel
theorem dX7_hasAll_6 : decode cX7_hasAll 6 = .ok (.if_icmp .ge 48, 3) := by decide +kernel
theorem dX7_hasAll_9 : decode cX7_hasAll 9 = .ok (.aload_n 0, 1) := by decide +kernel
theorem dX7_hasAll_10 : decode cX7_hasAll 10 = .ok (.iload_n 2, 1) := by decide +kernel
theorem dX7_hasAll_11 : decode cX7_hasAll 11 = .ok (.invokevirtual 147, 3) := by decide +kernel
theorem dX7_hasAll_14 : decode cX7_hasAll 14 = .ok (.ifCond .eq 34, 3) := by decide +kernel
theorem dX7_hasAll_17 : decode cX7_hasAll 17 = .ok (.aload_n 0, 1) := by decide +kernel
theorem dX7_hasAll_18 : decode cX7_hasAll 18 = .ok (.getfield 50, 3) := by decide +kernel
theorem dX7_hasAll_21 : decode cX7_hasAll 21 = .ok (.iload_n 2, 1) := by decide +kernel
theorem dX7_hasAll_22 : decode cX7_hasAll 22 = .ok (.iaload, 1) := by decide +kernel
theorem dX7_hasAll_23 : decode cX7_hasAll 23 = .ok (.iload_n 2, 1) := by decide +kernel
theorem dX7_hasAll_24 : decode cX7_hasAll 24 = .ok (.if_icmp .ne 24, 3) := by decide +kernel
theorem dX7_hasAll_27 : decode cX7_hasAll 27 = .ok (.aload_n 0, 1) := by decide +kernel
theorem dX7_hasAll_28 : decode cX7_hasAll 28 = .ok (.aload_n 0, 1) := by decide +kernel
theorem dX7_hasAll_29 : decode cX7_hasAll 29 = .ok (.iload_n 2, 1) := by decide +kernel
theorem dX7_hasAll_30 : decode cX7_hasAll 30 = .ok (.invokevirtual 150, 3) := by decide +kernel
theorem dX7_hasAll_33 : decode cX7_hasAll 33 = .ok (.invokevirtual 153, 3) := by decide +kernel
theorem dX7_hasAll_36 : decode cX7_hasAll 36 = .ok (.istore_n 3, 1) := by decide +kernel
theorem dX7_hasAll_37 : decode cX7_hasAll 37 = .ok (.iload_n 3, 1) := by decide +kernel
theorem dX7_hasAll_38 : decode cX7_hasAll 38 = .ok (.ifCond .ge 6, 3) := by decide +kernel
theorem dX7_hasAll_41 : decode cX7_hasAll 41 = .ok (.bipush (-6), 2) := by decide +kernel
theorem dX7_hasAll_43 : decode cX7_hasAll 43 = .ok (.ireturn, 1) := by decide +kernel
theorem dX7_hasAll_44 : decode cX7_hasAll 44 = .ok (.iload_n 1, 1) := by decide +kernel
theorem dX7_hasAll_45 : decode cX7_hasAll 45 = .ok (.iload_n 3, 1) := by decide +kernel
theorem dX7_hasAll_46 : decode cX7_hasAll 46 = .ok (.iadd, 1) := by decide +kernel
theorem dX7_hasAll_47 : decode cX7_hasAll 47 = .ok (.istore_n 1, 1) := by decide +kernel
theorem dX7_hasAll_48 : decode cX7_hasAll 48 = .ok (.iinc 2 1, 3) := by decide +kernel
theorem dX7_hasAll_51 : decode cX7_hasAll 51 = .ok (.goto (-47), 3) := by decide +kernel
theorem dX7_hasAll_54 : decode cX7_hasAll 54 = .ok (.iload_n 1, 1) := by decide +kernel
theorem dX7_hasAll_55 : decode cX7_hasAll 55 = .ok (.ireturn, 1) := by decide +kernel
theorem dX7_areAhead_0 : decode cX7_areAhead 0 = .ok (.iconst 0, 1) := by decide +kernel
theorem dX7_areAhead_1 : decode cX7_areAhead 1 = .ok (.istore_n 1, 1) := by decide +kernel
theorem dX7_areAhead_2 : decode cX7_areAhead 2 = .ok (.iload_n 1, 1) := by decide +kernel
theorem dX7_areAhead_3 : decode cX7_areAhead 3 = .ok (.iconst 4, 1) := by decide +kernel
theorem dX7_areAhead_4 : decode cX7_areAhead 4 = .ok (.if_icmp .ge 45, 3) := by decide +kernel
theorem dX7_areAhead_7 : decode cX7_areAhead 7 = .ok (.aload_n 0, 1) := by decide +kernel
theorem dX7_areAhead_8 : decode cX7_areAhead 8 = .ok (.iload_n 1, 1) := by decide +kernel
theorem dX7_areAhead_9 : decode cX7_areAhead 9 = .ok (.invokevirtual 150, 3) := by decide +kernel
theorem dX7_areAhead_12 : decode cX7_areAhead 12 = .ok (.istore_n 2, 1) := by decide +kernel
theorem dX7_areAhead_13 : decode cX7_areAhead 13 = .ok (.aload_n 0, 1) := by decide +kernel
theorem dX7_areAhead_14 : decode cX7_areAhead 14 = .ok (.iload_n 1, 1) := by decide +kernel
theorem dX7_areAhead_15 : decode cX7_areAhead 15 = .ok (.invokevirtual 156, 3) := by decide +kernel
theorem dX7_areAhead_18 : decode cX7_areAhead 18 = .ok (.istore_n 3, 1) := by decide +kernel
theorem dX7_areAhead_19 : decode cX7_areAhead 19 = .ok (.iload_n 2, 1) := by decide +kernel
theorem dX7_areAhead_20 : decode cX7_areAhead 20 = .ok (.iload_n 3, 1) := by decide +kernel
theorem dX7_areAhead_21 : decode cX7_areAhead 21 = .ok (.if_icmp .eq 22, 3) := by decide +kernel
theorem dX7_areAhead_24 : decode cX7_areAhead 24 = .ok (.iload_n 2, 1) := by decide +kernel
theorem dX7_areAhead_25 : decode cX7_areAhead 25 = .ok (.ifCond .eq 16, 3) := by decide +kernel
theorem dX7_areAhead_28 : decode cX7_areAhead 28 = .ok (.iload_n 3, 1) := by decide +kernel
theorem dX7_areAhead_29 : decode cX7_areAhead 29 = .ok (.ifCond .eq 8, 3) := by decide +kernel
theorem dX7_areAhead_32 : decode cX7_areAhead 32 = .ok (.iload_n 2, 1) := by decide +kernel
theorem dX7_areAhead_33 : decode cX7_areAhead 33 = .ok (.iload_n 3, 1) := by decide +kernel
theorem dX7_areAhead_34 : decode cX7_areAhead 34 = .ok (.if_icmp .ge 7, 3) := by decide +kernel
theorem dX7_areAhead_37 : decode cX7_areAhead 37 = .ok (.iconst 1, 1) := by decide +kernel
theorem dX7_areAhead_38 : decode cX7_areAhead 38 = .ok (.goto 4, 3) := by decide +kernel
theorem dX7_areAhead_41 : decode cX7_areAhead 41 = .ok (.iconst 0, 1) := by decide +kernel
theorem dX7_areAhead_42 : decode cX7_areAhead 42 = .ok (.ireturn, 1) := by decide +kernel
theorem dX7_areAhead_43 : decode cX7_areAhead 43 = .ok (.iinc 1 1, 3) := by decide +kernel
theorem dX7_areAhead_46 : decode cX7_areAhead 46 = .ok (.goto (-44), 3) := by decide +kernel
theorem dX7_areAhead_49 : decode cX7_areAhead 49 = .ok (.iconst 0, 1) := by decide +kernel
theorem dX7_areAhead_50 : decode cX7_areAhead 50 = .ok (.ireturn, 1) := by decide +kernel
theorem dX7_together_0 : decode cX7_together 0 = .ok (.iload_n 1, 1) := by decide +kernel
theorem dX7_together_1 : decode cX7_together 1 = .ok (.iconst (-1), 1) := by decide +kernel
theorem dX7_together_2 : decode cX7_together 2 = .ok (.if_icmp .eq 13, 3) := by decide +kernel
theorem dX7_together_5 : decode cX7_together 5 = .ok (.aload_n 0, 1) := by decide +kernel
theorem dX7_together_6 : decode cX7_together 6 = .ok (.iload_n 1, 1) := by decide +kernel
theorem dX7_together_7 : decode cX7_together 7 = .ok (.invokevirtual 147, 3) := by decide +kernel
theorem dX7_together_10 : decode cX7_together 10 = .ok (.ifCond .ne 5, 3) := by decide +kernel
theorem dX7_together_13 : decode cX7_together 13 = .ok (.iconst (-1), 1) := by decide +kernel
theorem dX7_together_14 : decode cX7_together 14 = .ok (.ireturn, 1) := by decide +kernel
theorem dX7_together_15 : decode cX7_together 15 = .ok (.aload_n 0, 1) := by decide +kernel
theorem dX7_together_16 : decode cX7_together 16 = .ok (.invokevirtual 124, 3) := by decide +kernel
theorem dX7_together_19 : decode cX7_together 19 = .ok (.iconst (-1), 1) := by decide +kernel
theorem dX7_together_20 : decode cX7_together 20 = .ok (.istore_n 2, 1) := by decide +kernel
theorem dX7_together_21 : decode cX7_together 21 = .ok (.iconst 0, 1) := by decide +kernel
theorem dX7_together_22 : decode cX7_together 22 = .ok (.istore_n 3, 1) := by decide +kernel
theorem dX7_together_23 : decode cX7_together 23 = .ok (.iload_n 3, 1) := by decide +kernel
theorem dX7_together_24 : decode cX7_together 24 = .ok (.sipush 256, 3) := by decide +kernel
theorem dX7_together_27 : decode cX7_together 27 = .ok (.if_icmp .ge 79, 3) := by decide +kernel
theorem dX7_together_30 : decode cX7_together 30 = .ok (.aload_n 0, 1) := by decide +kernel
theorem dX7_together_31 : decode cX7_together 31 = .ok (.iload_n 3, 1) := by decide +kernel
theorem dX7_together_32 : decode cX7_together 32 = .ok (.invokevirtual 159, 3) := by decide +kernel
theorem dX7_together_35 : decode cX7_together 35 = .ok (.ifCond .eq 65, 3) := by decide +kernel
theorem dX7_together_38 : decode cX7_together 38 = .ok (.aload_n 0, 1) := by decide +kernel
theorem dX7_together_39 : decode cX7_together 39 = .ok (.invokevirtual 162, 3) := by decide +kernel
theorem dX7_together_42 : decode cX7_together 42 = .ok (.istore 4, 2) := by decide +kernel
theorem dX7_together_44 : decode cX7_together 44 = .ok (.iload 4, 2) := by decide +kernel
theorem dX7_together_46 : decode cX7_together 46 = .ok (.ifCond .lt 54, 3) := by decide +kernel
theorem dX7_together_49 : decode cX7_together 49 = .ok (.iload 4, 2) := by decide +kernel
theorem dX7_together_51 : decode cX7_together 51 = .ok (.iload_n 2, 1) := by decide +kernel
theorem dX7_together_52 : decode cX7_together 52 = .ok (.if_icmp .gt 16, 3) := by decide +kernel
theorem dX7_together_55 : decode cX7_together 55 = .ok (.iload 4, 2) := by decide +kernel
theorem dX7_together_57 : decode cX7_together 57 = .ok (.iload_n 2, 1) := by decide +kernel
theorem dX7_together_58 : decode cX7_together 58 = .ok (.if_icmp .ne 42, 3) := by decide +kernel
theorem dX7_together_61 : decode cX7_together 61 = .ok (.aload_n 0, 1) := by decide +kernel
theorem dX7_together_62 : decode cX7_together 62 = .ok (.invokevirtual 165, 3) := by decide +kernel
theorem dX7_together_65 : decode cX7_together 65 = .ok (.ifCond .eq 35, 3) := by decide +kernel
theorem dX7_together_68 : decode cX7_together 68 = .ok (.iload 4, 2) := by decide +kernel
theorem dX7_together_70 : decode cX7_together 70 = .ok (.istore_n 2, 1) := by decide +kernel
theorem dX7_together_71 : decode cX7_together 71 = .ok (.iconst 0, 1) := by decide +kernel
theorem dX7_together_72 : decode cX7_together 72 = .ok (.istore 5, 2) := by decide +kernel
theorem dX7_together_74 : decode cX7_together 74 = .ok (.iload 5, 2) := by decide +kernel
theorem dX7_together_76 : decode cX7_together 76 = .ok (.iconst 4, 1) := by decide +kernel
theorem dX7_together_77 : decode cX7_together 77 = .ok (.if_icmp .ge 23, 3) := by decide +kernel
theorem dX7_together_80 : decode cX7_together 80 = .ok (.aload_n 0, 1) := by decide +kernel
theorem dX7_together_81 : decode cX7_together 81 = .ok (.getfield 53, 3) := by decide +kernel
theorem dX7_together_84 : decode cX7_together 84 = .ok (.iload 5, 2) := by decide +kernel
theorem dX7_together_86 : decode cX7_together 86 = .ok (.aload_n 0, 1) := by decide +kernel
theorem dX7_together_87 : decode cX7_together 87 = .ok (.getfield 50, 3) := by decide +kernel
theorem dX7_together_90 : decode cX7_together 90 = .ok (.iload 5, 2) := by decide +kernel
theorem dX7_together_92 : decode cX7_together 92 = .ok (.iaload, 1) := by decide +kernel
theorem dX7_together_93 : decode cX7_together 93 = .ok (.iastore, 1) := by decide +kernel
theorem dX7_together_94 : decode cX7_together 94 = .ok (.iinc 5 1, 3) := by decide +kernel
theorem dX7_together_97 : decode cX7_together 97 = .ok (.goto (-23), 3) := by decide +kernel
theorem dX7_together_100 : decode cX7_together 100 = .ok (.iinc 3 1, 3) := by decide +kernel
theorem dX7_together_103 : decode cX7_together 103 = .ok (.goto (-80), 3) := by decide +kernel
theorem dX7_together_106 : decode cX7_together 106 = .ok (.iload_n 1, 1) := by decide +kernel
theorem dX7_together_107 : decode cX7_together 107 = .ok (.iconst (-1), 1) := by decide +kernel
theorem dX7_together_108 : decode cX7_together 108 = .ok (.if_icmp .ne 7, 3) := by decide +kernel
theorem dX7_together_111 : decode cX7_together 111 = .ok (.iload_n 2, 1) := by decide +kernel
theorem dX7_together_112 : decode cX7_together 112 = .ok (.goto 9, 3) := by decide +kernel
theorem dX7_together_115 : decode cX7_together 115 = .ok (.aload_n 0, 1) := by decide +kernel
theorem dX7_together_116 : decode cX7_together 116 = .ok (.getfield 53, 3) := by decide +kernel
theorem dX7_together_119 : decode cX7_together 119 = .ok (.iload_n 1, 1) := by decide +kernel
theorem dX7_together_120 : decode cX7_together 120 = .ok (.iaload, 1) := by decide +kernel
theorem dX7_together_121 : decode cX7_together 121 = .ok (.ireturn, 1) := by decide +kernel
theorem dX7_pays_0 : decode cX7_pays 0 = .ok (.aload_n 0, 1) := by decide +kernel
theorem dX7_pays_1 : decode cX7_pays 1 = .ok (.iload_n 1, 1) := by decide +kernel
theorem dX7_pays_2 : decode cX7_pays 2 = .ok (.invokevirtual 147, 3) := by decide +kernel
theorem dX7_pays_5 : decode cX7_pays 5 = .ok (.ifCond .eq 16, 3) := by decide +kernel
theorem dX7_pays_8 : decode cX7_pays 8 = .ok (.aload_n 0, 1) := by decide +kernel
theorem dX7_pays_9 : decode cX7_pays 9 = .ok (.iload_n 2, 1) := by decide +kernel
theorem dX7_pays_10 : decode cX7_pays 10 = .ok (.invokevirtual 147, 3) := by decide +kernel
theorem dX7_pays_13 : decode cX7_pays 13 = .ok (.ifCond .eq 8, 3) := by decide +kernel
theorem dX7_pays_16 : decode cX7_pays 16 = .ok (.iload_n 1, 1) := by decide +kernel
theorem dX7_pays_17 : decode cX7_pays 17 = .ok (.iload_n 2, 1) := by decide +kernel
theorem dX7_pays_18 : decode cX7_pays 18 = .ok (.if_icmp .ne 5, 3) := by decide +kernel
theorem dX7_pays_21 : decode cX7_pays 21 = .ok (.iconst (-1), 1) := by decide +kernel
theorem dX7_pays_22 : decode cX7_pays 22 = .ok (.ireturn, 1) := by decide +kernel
theorem dX7_pays_23 : decode cX7_pays 23 = .ok (.aload_n 0, 1) := by decide +kernel
theorem dX7_pays_24 : decode cX7_pays 24 = .ok (.invokevirtual 124, 3) := by decide +kernel
theorem dX7_pays_27 : decode cX7_pays 27 = .ok (.iconst 0, 1) := by decide +kernel
theorem dX7_pays_28 : decode cX7_pays 28 = .ok (.istore_n 3, 1) := by decide +kernel
theorem dX7_pays_29 : decode cX7_pays 29 = .ok (.iload_n 3, 1) := by decide +kernel
theorem dX7_pays_30 : decode cX7_pays 30 = .ok (.aload_n 0, 1) := by decide +kernel
theorem dX7_pays_31 : decode cX7_pays 31 = .ok (.getfield 22, 3) := by decide +kernel
theorem dX7_pays_34 : decode cX7_pays 34 = .ok (.iload_n 1, 1) := by decide +kernel
theorem dX7_pays_35 : decode cX7_pays 35 = .ok (.iaload, 1) := by decide +kernel
theorem dX7_pays_36 : decode cX7_pays 36 = .ok (.if_icmp .gt 41, 3) := by decide +kernel
theorem dX7_pays_39 : decode cX7_pays 39 = .ok (.aload_n 0, 1) := by decide +kernel
theorem dX7_pays_40 : decode cX7_pays 40 = .ok (.aload_n 0, 1) := by decide +kernel
theorem dX7_pays_41 : decode cX7_pays 41 = .ok (.getfield 22, 3) := by decide +kernel
theorem dX7_pays_44 : decode cX7_pays 44 = .ok (.iload_n 1, 1) := by decide +kernel
theorem dX7_pays_45 : decode cX7_pays 45 = .ok (.iaload, 1) := by decide +kernel
theorem dX7_pays_46 : decode cX7_pays 46 = .ok (.iload_n 3, 1) := by decide +kernel
theorem dX7_pays_47 : decode cX7_pays 47 = .ok (.isub, 1) := by decide +kernel
theorem dX7_pays_48 : decode cX7_pays 48 = .ok (.invokevirtual 127, 3) := by decide +kernel
theorem dX7_pays_51 : decode cX7_pays 51 = .ok (.ifCond .eq 20, 3) := by decide +kernel
theorem dX7_pays_54 : decode cX7_pays 54 = .ok (.aload_n 0, 1) := by decide +kernel
theorem dX7_pays_55 : decode cX7_pays 55 = .ok (.aload_n 0, 1) := by decide +kernel
theorem dX7_pays_56 : decode cX7_pays 56 = .ok (.getfield 22, 3) := by decide +kernel
theorem dX7_pays_59 : decode cX7_pays 59 = .ok (.iload_n 2, 1) := by decide +kernel
theorem dX7_pays_60 : decode cX7_pays 60 = .ok (.iaload, 1) := by decide +kernel
theorem dX7_pays_61 : decode cX7_pays 61 = .ok (.iload_n 3, 1) := by decide +kernel
theorem dX7_pays_62 : decode cX7_pays 62 = .ok (.iadd, 1) := by decide +kernel
theorem dX7_pays_63 : decode cX7_pays 63 = .ok (.invokevirtual 127, 3) := by decide +kernel
theorem dX7_pays_66 : decode cX7_pays 66 = .ok (.ifCond .eq 5, 3) := by decide +kernel
theorem dX7_pays_69 : decode cX7_pays 69 = .ok (.iload_n 3, 1) := by decide +kernel
theorem dX7_pays_70 : decode cX7_pays 70 = .ok (.ireturn, 1) := by decide +kernel
theorem dX7_pays_71 : decode cX7_pays 71 = .ok (.iinc 3 1, 3) := by decide +kernel
theorem dX7_pays_74 : decode cX7_pays 74 = .ok (.goto (-45), 3) := by decide +kernel
theorem dX7_pays_77 : decode cX7_pays 77 = .ok (.bipush (-6), 2) := by decide +kernel
theorem dX7_pays_79 : decode cX7_pays 79 = .ok (.ireturn, 1) := by decide +kernel
theorem dX7_wage_0 : decode cX7_wage 0 = .ok (.iload_n 1, 1) := by decide +kernel
theorem dX7_wage_1 : decode cX7_wage 1 = .ok (.iload_n 2, 1) := by decide +kernel
theorem dX7_wage_2 : decode cX7_wage 2 = .ok (.invokestatic 133, 3) := by decide +kernel
theorem dX7_wage_5 : decode cX7_wage 5 = .ok (.ifCond .eq 13, 3) := by decide +kernel
theorem dX7_wage_8 : decode cX7_wage 8 = .ok (.iload_n 3, 1) := by decide +kernel
theorem dX7_wage_9 : decode cX7_wage 9 = .ok (.i2l, 1) := by decide +kernel
theorem dX7_wage_10 : decode cX7_wage 10 = .ok (.lconst 0, 1) := by decide +kernel
theorem dX7_wage_11 : decode cX7_wage 11 = .ok (.lconst 1, 1) := by decide +kernel
theorem dX7_wage_12 : decode cX7_wage 12 = .ok (.invokestatic 67, 3) := by decide +kernel
theorem dX7_wage_15 : decode cX7_wage 15 = .ok (.ifCond .ne 6, 3) := by decide +kernel
theorem dX7_wage_18 : decode cX7_wage 18 = .ok (.bipush (-2), 2) := by decide +kernel
theorem dX7_wage_20 : decode cX7_wage 20 = .ok (.ireturn, 1) := by decide +kernel
theorem dX7_wage_21 : decode cX7_wage 21 = .ok (.aload_n 0, 1) := by decide +kernel
theorem dX7_wage_22 : decode cX7_wage 22 = .ok (.invokevirtual 124, 3) := by decide +kernel
theorem dX7_wage_25 : decode cX7_wage 25 = .ok (.bipush (-6), 2) := by decide +kernel
theorem dX7_wage_27 : decode cX7_wage 27 = .ok (.istore 4, 2) := by decide +kernel
theorem dX7_wage_29 : decode cX7_wage 29 = .ok (.iconst (-1), 1) := by decide +kernel
theorem dX7_wage_30 : decode cX7_wage 30 = .ok (.istore 5, 2) := by decide +kernel
theorem dX7_wage_32 : decode cX7_wage 32 = .ok (.iload_n 1, 1) := by decide +kernel
theorem dX7_wage_33 : decode cX7_wage 33 = .ok (.istore 6, 2) := by decide +kernel
theorem dX7_wage_35 : decode cX7_wage 35 = .ok (.iload 6, 2) := by decide +kernel
theorem dX7_wage_37 : decode cX7_wage 37 = .ok (.iload_n 2, 1) := by decide +kernel
theorem dX7_wage_38 : decode cX7_wage 38 = .ok (.if_icmp .gt 43, 3) := by decide +kernel
theorem dX7_wage_41 : decode cX7_wage 41 = .ok (.aload_n 0, 1) := by decide +kernel
theorem dX7_wage_42 : decode cX7_wage 42 = .ok (.iload 6, 2) := by decide +kernel
theorem dX7_wage_44 : decode cX7_wage 44 = .ok (.invokevirtual 127, 3) := by decide +kernel
theorem dX7_wage_47 : decode cX7_wage 47 = .ok (.ifCond .eq 28, 3) := by decide +kernel
theorem dX7_wage_50 : decode cX7_wage 50 = .ok (.aload_n 0, 1) := by decide +kernel
theorem dX7_wage_51 : decode cX7_wage 51 = .ok (.getfield 40, 3) := by decide +kernel
theorem dX7_wage_54 : decode cX7_wage 54 = .ok (.iload 6, 2) := by decide +kernel
theorem dX7_wage_56 : decode cX7_wage 56 = .ok (.iaload, 1) := by decide +kernel
theorem dX7_wage_57 : decode cX7_wage 57 = .ok (.iload 5, 2) := by decide +kernel
theorem dX7_wage_59 : decode cX7_wage 59 = .ok (.if_icmp .le 16, 3) := by decide +kernel
theorem dX7_wage_62 : decode cX7_wage 62 = .ok (.iload 6, 2) := by decide +kernel
theorem dX7_wage_64 : decode cX7_wage 64 = .ok (.istore 4, 2) := by decide +kernel
theorem dX7_wage_66 : decode cX7_wage 66 = .ok (.aload_n 0, 1) := by decide +kernel
theorem dX7_wage_67 : decode cX7_wage 67 = .ok (.getfield 40, 3) := by decide +kernel
theorem dX7_wage_70 : decode cX7_wage 70 = .ok (.iload 6, 2) := by decide +kernel
theorem dX7_wage_72 : decode cX7_wage 72 = .ok (.iaload, 1) := by decide +kernel
theorem dX7_wage_73 : decode cX7_wage 73 = .ok (.istore 5, 2) := by decide +kernel
theorem dX7_wage_75 : decode cX7_wage 75 = .ok (.iinc 6 1, 3) := by decide +kernel
theorem dX7_wage_78 : decode cX7_wage 78 = .ok (.goto (-43), 3) := by decide +kernel
theorem dX7_wage_81 : decode cX7_wage 81 = .ok (.iload 4, 2) := by decide +kernel
theorem dX7_wage_83 : decode cX7_wage 83 = .ok (.ifCond .lt 7, 3) := by decide +kernel
theorem dX7_wage_86 : decode cX7_wage 86 = .ok (.iload_n 3, 1) := by decide +kernel
theorem dX7_wage_87 : decode cX7_wage 87 = .ok (.ifCond .ne 8, 3) := by decide +kernel
theorem dX7_wage_90 : decode cX7_wage 90 = .ok (.iload 4, 2) := by decide +kernel
theorem dX7_wage_92 : decode cX7_wage 92 = .ok (.goto 5, 3) := by decide +kernel
theorem dX7_wage_95 : decode cX7_wage 95 = .ok (.iload 5, 2) := by decide +kernel
theorem dX7_wage_97 : decode cX7_wage 97 = .ok (.ireturn, 1) := by decide +kernel
theorem dX7_boughtOf_0 : decode cX7_boughtOf 0 = .ok (.aload_n 0, 1) := by decide +kernel
theorem dX7_boughtOf_1 : decode cX7_boughtOf 1 = .ok (.invokevirtual 124, 3) := by decide +kernel
theorem dX7_boughtOf_4 : decode cX7_boughtOf 4 = .ok (.iconst 0, 1) := by decide +kernel
theorem dX7_boughtOf_5 : decode cX7_boughtOf 5 = .ok (.istore_n 2, 1) := by decide +kernel
theorem dX7_boughtOf_6 : decode cX7_boughtOf 6 = .ok (.iconst 0, 1) := by decide +kernel
theorem dX7_boughtOf_7 : decode cX7_boughtOf 7 = .ok (.istore_n 3, 1) := by decide +kernel
theorem dX7_boughtOf_8 : decode cX7_boughtOf 8 = .ok (.iload_n 3, 1) := by decide +kernel
theorem dX7_boughtOf_9 : decode cX7_boughtOf 9 = .ok (.iconst 4, 1) := by decide +kernel
theorem dX7_boughtOf_10 : decode cX7_boughtOf 10 = .ok (.if_icmp .ge 49, 3) := by decide +kernel
theorem dX7_boughtOf_13 : decode cX7_boughtOf 13 = .ok (.aload_n 0, 1) := by decide +kernel
theorem dX7_boughtOf_14 : decode cX7_boughtOf 14 = .ok (.iload_n 3, 1) := by decide +kernel
theorem dX7_boughtOf_15 : decode cX7_boughtOf 15 = .ok (.invokevirtual 147, 3) := by decide +kernel
theorem dX7_boughtOf_18 : decode cX7_boughtOf 18 = .ok (.ifCond .eq 35, 3) := by decide +kernel
theorem dX7_boughtOf_21 : decode cX7_boughtOf 21 = .ok (.aload_n 0, 1) := by decide +kernel
theorem dX7_boughtOf_22 : decode cX7_boughtOf 22 = .ok (.aload_n 0, 1) := by decide +kernel
theorem dX7_boughtOf_23 : decode cX7_boughtOf 23 = .ok (.getfield 22, 3) := by decide +kernel
theorem dX7_boughtOf_26 : decode cX7_boughtOf 26 = .ok (.iload_n 3, 1) := by decide +kernel
theorem dX7_boughtOf_27 : decode cX7_boughtOf 27 = .ok (.iaload, 1) := by decide +kernel
theorem dX7_boughtOf_28 : decode cX7_boughtOf 28 = .ok (.invokevirtual 127, 3) := by decide +kernel
theorem dX7_boughtOf_31 : decode cX7_boughtOf 31 = .ok (.ifCond .eq 22, 3) := by decide +kernel
theorem dX7_boughtOf_34 : decode cX7_boughtOf 34 = .ok (.aload_n 0, 1) := by decide +kernel
theorem dX7_boughtOf_35 : decode cX7_boughtOf 35 = .ok (.aload_n 0, 1) := by decide +kernel
theorem dX7_boughtOf_36 : decode cX7_boughtOf 36 = .ok (.getfield 22, 3) := by decide +kernel
theorem dX7_boughtOf_39 : decode cX7_boughtOf 39 = .ok (.iload_n 3, 1) := by decide +kernel
theorem dX7_boughtOf_40 : decode cX7_boughtOf 40 = .ok (.iaload, 1) := by decide +kernel
theorem dX7_boughtOf_41 : decode cX7_boughtOf 41 = .ok (.invokevirtual 130, 3) := by decide +kernel
theorem dX7_boughtOf_44 : decode cX7_boughtOf 44 = .ok (.iload_n 2, 1) := by decide +kernel
theorem dX7_boughtOf_45 : decode cX7_boughtOf 45 = .ok (.aload_n 0, 1) := by decide +kernel
theorem dX7_boughtOf_46 : decode cX7_boughtOf 46 = .ok (.getfield 37, 3) := by decide +kernel
theorem dX7_boughtOf_49 : decode cX7_boughtOf 49 = .ok (.iload_n 1, 1) := by decide +kernel
theorem dX7_boughtOf_50 : decode cX7_boughtOf 50 = .ok (.iaload, 1) := by decide +kernel
theorem dX7_boughtOf_51 : decode cX7_boughtOf 51 = .ok (.iadd, 1) := by decide +kernel
theorem dX7_boughtOf_52 : decode cX7_boughtOf 52 = .ok (.istore_n 2, 1) := by decide +kernel
theorem dX7_boughtOf_53 : decode cX7_boughtOf 53 = .ok (.iinc 3 1, 3) := by decide +kernel
theorem dX7_boughtOf_56 : decode cX7_boughtOf 56 = .ok (.goto (-48), 3) := by decide +kernel
theorem dX7_boughtOf_59 : decode cX7_boughtOf 59 = .ok (.iload_n 2, 1) := by decide +kernel
theorem dX7_boughtOf_60 : decode cX7_boughtOf 60 = .ok (.ireturn, 1) := by decide +kernel
theorem dX7_priced_0 : decode cX7_priced 0 = .ok (.iload_n 1, 1) := by decide +kernel
theorem dX7_priced_1 : decode cX7_priced 1 = .ok (.invokestatic 73, 3) := by decide +kernel
theorem dX7_priced_4 : decode cX7_priced 4 = .ok (.ifCond .ne 5, 3) := by decide +kernel
theorem dX7_priced_7 : decode cX7_priced 7 = .ok (.iconst (-1), 1) := by decide +kernel
theorem dX7_priced_8 : decode cX7_priced 8 = .ok (.ireturn, 1) := by decide +kernel
theorem dX7_priced_9 : decode cX7_priced 9 = .ok (.iload_n 2, 1) := by decide +kernel
theorem dX7_priced_10 : decode cX7_priced 10 = .ok (.i2l, 1) := by decide +kernel
theorem dX7_priced_11 : decode cX7_priced 11 = .ok (.lconst 0, 1) := by decide +kernel
theorem dX7_priced_12 : decode cX7_priced 12 = .ok (.lconst 1, 1) := by decide +kernel
theorem dX7_priced_13 : decode cX7_priced 13 = .ok (.invokestatic 67, 3) := by decide +kernel
theorem dX7_priced_16 : decode cX7_priced 16 = .ok (.ifCond .ne 6, 3) := by decide +kernel
theorem dX7_priced_19 : decode cX7_priced 19 = .ok (.bipush (-2), 2) := by decide +kernel
theorem dX7_priced_21 : decode cX7_priced 21 = .ok (.ireturn, 1) := by decide +kernel
theorem dX7_priced_22 : decode cX7_priced 22 = .ok (.aload_n 0, 1) := by decide +kernel
theorem dX7_priced_23 : decode cX7_priced 23 = .ok (.getfield 7, 3) := by decide +kernel
theorem dX7_priced_26 : decode cX7_priced 26 = .ok (.iload_n 1, 1) := by decide +kernel
theorem dX7_priced_27 : decode cX7_priced 27 = .ok (.iaload, 1) := by decide +kernel
theorem dX7_priced_28 : decode cX7_priced 28 = .ok (.istore_n 3, 1) := by decide +kernel
theorem dX7_priced_29 : decode cX7_priced 29 = .ok (.bipush (-6), 2) := by decide +kernel
theorem dX7_priced_31 : decode cX7_priced 31 = .ok (.istore 4, 2) := by decide +kernel
theorem dX7_priced_33 : decode cX7_priced 33 = .ok (.iconst (-1), 1) := by decide +kernel
theorem dX7_priced_34 : decode cX7_priced 34 = .ok (.istore 5, 2) := by decide +kernel
theorem dX7_priced_36 : decode cX7_priced 36 = .ok (.iconst 1, 1) := by decide +kernel
theorem dX7_priced_37 : decode cX7_priced 37 = .ok (.istore 6, 2) := by decide +kernel
theorem dX7_priced_39 : decode cX7_priced 39 = .ok (.iload 6, 2) := by decide +kernel
theorem dX7_priced_41 : decode cX7_priced 41 = .ok (.bipush 100, 2) := by decide +kernel
theorem dX7_priced_43 : decode cX7_priced 43 = .ok (.if_icmp .ge 56, 3) := by decide +kernel
theorem dX7_priced_46 : decode cX7_priced 46 = .ok (.aload_n 0, 1) := by decide +kernel
theorem dX7_priced_47 : decode cX7_priced 47 = .ok (.getfield 7, 3) := by decide +kernel
theorem dX7_priced_50 : decode cX7_priced 50 = .ok (.iload_n 1, 1) := by decide +kernel
theorem dX7_priced_51 : decode cX7_priced 51 = .ok (.iload 6, 2) := by decide +kernel
theorem dX7_priced_53 : decode cX7_priced 53 = .ok (.iastore, 1) := by decide +kernel
theorem dX7_priced_54 : decode cX7_priced 54 = .ok (.aload_n 0, 1) := by decide +kernel
theorem dX7_priced_55 : decode cX7_priced 55 = .ok (.iload_n 1, 1) := by decide +kernel
theorem dX7_priced_56 : decode cX7_priced 56 = .ok (.invokevirtual 169, 3) := by decide +kernel
theorem dX7_priced_59 : decode cX7_priced 59 = .ok (.istore 7, 2) := by decide +kernel
theorem dX7_priced_61 : decode cX7_priced 61 = .ok (.iload 7, 2) := by decide +kernel
theorem dX7_priced_63 : decode cX7_priced 63 = .ok (.iload 5, 2) := by decide +kernel
theorem dX7_priced_65 : decode cX7_priced 65 = .ok (.if_icmp .le 8, 3) := by decide +kernel
theorem dX7_priced_68 : decode cX7_priced 68 = .ok (.iload 6, 2) := by decide +kernel
theorem dX7_priced_70 : decode cX7_priced 70 = .ok (.goto 5, 3) := by decide +kernel
theorem dX7_priced_73 : decode cX7_priced 73 = .ok (.iload 4, 2) := by decide +kernel
theorem dX7_priced_75 : decode cX7_priced 75 = .ok (.istore 4, 2) := by decide +kernel
theorem dX7_priced_77 : decode cX7_priced 77 = .ok (.iload 7, 2) := by decide +kernel
theorem dX7_priced_79 : decode cX7_priced 79 = .ok (.iload 5, 2) := by decide +kernel
theorem dX7_priced_81 : decode cX7_priced 81 = .ok (.if_icmp .le 8, 3) := by decide +kernel
theorem dX7_priced_84 : decode cX7_priced 84 = .ok (.iload 7, 2) := by decide +kernel
theorem dX7_priced_86 : decode cX7_priced 86 = .ok (.goto 5, 3) := by decide +kernel
theorem dX7_priced_89 : decode cX7_priced 89 = .ok (.iload 5, 2) := by decide +kernel
theorem dX7_priced_91 : decode cX7_priced 91 = .ok (.istore 5, 2) := by decide +kernel
theorem dX7_priced_93 : decode cX7_priced 93 = .ok (.iinc 6 1, 3) := by decide +kernel
theorem dX7_priced_96 : decode cX7_priced 96 = .ok (.goto (-57), 3) := by decide +kernel
theorem dX7_priced_99 : decode cX7_priced 99 = .ok (.aload_n 0, 1) := by decide +kernel
theorem dX7_priced_100 : decode cX7_priced 100 = .ok (.getfield 7, 3) := by decide +kernel
theorem dX7_priced_103 : decode cX7_priced 103 = .ok (.iload_n 1, 1) := by decide +kernel
theorem dX7_priced_104 : decode cX7_priced 104 = .ok (.iload_n 3, 1) := by decide +kernel
theorem dX7_priced_105 : decode cX7_priced 105 = .ok (.iastore, 1) := by decide +kernel
theorem dX7_priced_106 : decode cX7_priced 106 = .ok (.iload_n 2, 1) := by decide +kernel
theorem dX7_priced_107 : decode cX7_priced 107 = .ok (.ifCond .ne 8, 3) := by decide +kernel
theorem dX7_priced_110 : decode cX7_priced 110 = .ok (.iload 4, 2) := by decide +kernel
theorem dX7_priced_112 : decode cX7_priced 112 = .ok (.goto 5, 3) := by decide +kernel
theorem dX7_priced_115 : decode cX7_priced 115 = .ok (.iload 5, 2) := by decide +kernel
theorem dX7_priced_117 : decode cX7_priced 117 = .ok (.ireturn, 1) := by decide +kernel
theorem dX7_penny_0 : decode cX7_penny 0 = .ok (.iload_n 1, 1) := by decide +kernel
theorem dX7_penny_1 : decode cX7_penny 1 = .ok (.i2l, 1) := by decide +kernel
theorem dX7_penny_2 : decode cX7_penny 2 = .ok (.lconst 1, 1) := by decide +kernel
theorem dX7_penny_3 : decode cX7_penny 3 = .ok (.ldc2_w 71, 3) := by decide +kernel
theorem dX7_penny_6 : decode cX7_penny 6 = .ok (.invokestatic 67, 3) := by decide +kernel
theorem dX7_penny_9 : decode cX7_penny 9 = .ok (.ifCond .eq 26, 3) := by decide +kernel
theorem dX7_penny_12 : decode cX7_penny 12 = .ok (.iload_n 2, 1) := by decide +kernel
theorem dX7_penny_13 : decode cX7_penny 13 = .ok (.i2l, 1) := by decide +kernel
theorem dX7_penny_14 : decode cX7_penny 14 = .ok (.iload_n 1, 1) := by decide +kernel
theorem dX7_penny_15 : decode cX7_penny 15 = .ok (.i2l, 1) := by decide +kernel
theorem dX7_penny_16 : decode cX7_penny 16 = .ok (.ldc2_w 71, 3) := by decide +kernel
theorem dX7_penny_19 : decode cX7_penny 19 = .ok (.invokestatic 67, 3) := by decide +kernel
theorem dX7_penny_22 : decode cX7_penny 22 = .ok (.ifCond .eq 13, 3) := by decide +kernel
theorem dX7_penny_25 : decode cX7_penny 25 = .ok (.iload_n 3, 1) := by decide +kernel
theorem dX7_penny_26 : decode cX7_penny 26 = .ok (.i2l, 1) := by decide +kernel
theorem dX7_penny_27 : decode cX7_penny 27 = .ok (.lconst 0, 1) := by decide +kernel
theorem dX7_penny_28 : decode cX7_penny 28 = .ok (.lconst 1, 1) := by decide +kernel
theorem dX7_penny_29 : decode cX7_penny 29 = .ok (.invokestatic 67, 3) := by decide +kernel
theorem dX7_penny_32 : decode cX7_penny 32 = .ok (.ifCond .ne 6, 3) := by decide +kernel
theorem dX7_penny_35 : decode cX7_penny 35 = .ok (.bipush (-2), 2) := by decide +kernel
theorem dX7_penny_37 : decode cX7_penny 37 = .ok (.ireturn, 1) := by decide +kernel
theorem dX7_penny_38 : decode cX7_penny 38 = .ok (.aload_n 0, 1) := by decide +kernel
theorem dX7_penny_39 : decode cX7_penny 39 = .ok (.invokevirtual 124, 3) := by decide +kernel
theorem dX7_penny_42 : decode cX7_penny 42 = .ok (.bipush (-6), 2) := by decide +kernel
theorem dX7_penny_44 : decode cX7_penny 44 = .ok (.istore 4, 2) := by decide +kernel
theorem dX7_penny_46 : decode cX7_penny 46 = .ok (.iconst 0, 1) := by decide +kernel
theorem dX7_penny_47 : decode cX7_penny 47 = .ok (.istore 5, 2) := by decide +kernel
theorem dX7_penny_49 : decode cX7_penny 49 = .ok (.iload_n 1, 1) := by decide +kernel
theorem dX7_penny_50 : decode cX7_penny 50 = .ok (.istore 6, 2) := by decide +kernel
theorem dX7_penny_52 : decode cX7_penny 52 = .ok (.iload 6, 2) := by decide +kernel
theorem dX7_penny_54 : decode cX7_penny 54 = .ok (.iload_n 2, 1) := by decide +kernel
theorem dX7_penny_55 : decode cX7_penny 55 = .ok (.if_icmp .gt 72, 3) := by decide +kernel
theorem dX7_penny_58 : decode cX7_penny 58 = .ok (.aload_n 0, 1) := by decide +kernel
theorem dX7_penny_59 : decode cX7_penny 59 = .ok (.iload 6, 2) := by decide +kernel
theorem dX7_penny_61 : decode cX7_penny 61 = .ok (.invokevirtual 127, 3) := by decide +kernel
theorem dX7_penny_64 : decode cX7_penny 64 = .ok (.ifCond .eq 57, 3) := by decide +kernel
theorem dX7_penny_67 : decode cX7_penny 67 = .ok (.aload_n 0, 1) := by decide +kernel
theorem dX7_penny_68 : decode cX7_penny 68 = .ok (.getfield 40, 3) := by decide +kernel
theorem dX7_penny_71 : decode cX7_penny 71 = .ok (.iload 6, 2) := by decide +kernel
theorem dX7_penny_73 : decode cX7_penny 73 = .ok (.iaload, 1) := by decide +kernel
theorem dX7_penny_74 : decode cX7_penny 74 = .ok (.aload_n 0, 1) := by decide +kernel
theorem dX7_penny_75 : decode cX7_penny 75 = .ok (.iload 6, 2) := by decide +kernel
theorem dX7_penny_77 : decode cX7_penny 77 = .ok (.iconst 1, 1) := by decide +kernel
theorem dX7_penny_78 : decode cX7_penny 78 = .ok (.isub, 1) := by decide +kernel
theorem dX7_penny_79 : decode cX7_penny 79 = .ok (.invokevirtual 127, 3) := by decide +kernel
theorem dX7_penny_82 : decode cX7_penny 82 = .ok (.ifCond .eq 15, 3) := by decide +kernel
theorem dX7_penny_85 : decode cX7_penny 85 = .ok (.aload_n 0, 1) := by decide +kernel
theorem dX7_penny_86 : decode cX7_penny 86 = .ok (.getfield 40, 3) := by decide +kernel
theorem dX7_penny_89 : decode cX7_penny 89 = .ok (.iload 6, 2) := by decide +kernel
theorem dX7_penny_91 : decode cX7_penny 91 = .ok (.iconst 1, 1) := by decide +kernel
theorem dX7_penny_92 : decode cX7_penny 92 = .ok (.isub, 1) := by decide +kernel
theorem dX7_penny_93 : decode cX7_penny 93 = .ok (.iaload, 1) := by decide +kernel
theorem dX7_penny_94 : decode cX7_penny 94 = .ok (.goto 4, 3) := by decide +kernel
theorem dX7_penny_97 : decode cX7_penny 97 = .ok (.iconst 0, 1) := by decide +kernel
theorem dX7_penny_98 : decode cX7_penny 98 = .ok (.isub, 1) := by decide +kernel
theorem dX7_penny_99 : decode cX7_penny 99 = .ok (.istore 7, 2) := by decide +kernel
theorem dX7_penny_101 : decode cX7_penny 101 = .ok (.iload 4, 2) := by decide +kernel
theorem dX7_penny_103 : decode cX7_penny 103 = .ok (.ifCond .lt 10, 3) := by decide +kernel
theorem dX7_penny_106 : decode cX7_penny 106 = .ok (.iload 7, 2) := by decide +kernel
theorem dX7_penny_108 : decode cX7_penny 108 = .ok (.iload 5, 2) := by decide +kernel
theorem dX7_penny_110 : decode cX7_penny 110 = .ok (.if_icmp .le 11, 3) := by decide +kernel
theorem dX7_penny_113 : decode cX7_penny 113 = .ok (.iload 6, 2) := by decide +kernel
theorem dX7_penny_115 : decode cX7_penny 115 = .ok (.istore 4, 2) := by decide +kernel
theorem dX7_penny_117 : decode cX7_penny 117 = .ok (.iload 7, 2) := by decide +kernel
theorem dX7_penny_119 : decode cX7_penny 119 = .ok (.istore 5, 2) := by decide +kernel
theorem dX7_penny_121 : decode cX7_penny 121 = .ok (.iinc 6 1, 3) := by decide +kernel
theorem dX7_penny_124 : decode cX7_penny 124 = .ok (.goto (-72), 3) := by decide +kernel
theorem dX7_penny_127 : decode cX7_penny 127 = .ok (.iload 4, 2) := by decide +kernel
theorem dX7_penny_129 : decode cX7_penny 129 = .ok (.ifCond .lt 7, 3) := by decide +kernel
theorem dX7_penny_132 : decode cX7_penny 132 = .ok (.iload_n 3, 1) := by decide +kernel
theorem dX7_penny_133 : decode cX7_penny 133 = .ok (.ifCond .ne 8, 3) := by decide +kernel
theorem dX7_penny_136 : decode cX7_penny 136 = .ok (.iload 4, 2) := by decide +kernel
theorem dX7_penny_138 : decode cX7_penny 138 = .ok (.goto 9, 3) := by decide +kernel
theorem dX7_penny_141 : decode cX7_penny 141 = .ok (.iload 5, 2) := by decide +kernel
theorem dX7_penny_143 : decode cX7_penny 143 = .ok (.sipush 10000, 3) := by decide +kernel
theorem dX7_penny_146 : decode cX7_penny 146 = .ok (.iadd, 1) := by decide +kernel
theorem dX7_penny_147 : decode cX7_penny 147 = .ok (.ireturn, 1) := by decide +kernel
theorem dX7_seen_0 : decode cX7_seen 0 = .ok (.iload_n 1, 1) := by decide +kernel
theorem dX7_seen_1 : decode cX7_seen 1 = .ok (.invokestatic 73, 3) := by decide +kernel
theorem dX7_seen_4 : decode cX7_seen 4 = .ok (.ifCond .ne 5, 3) := by decide +kernel
theorem dX7_seen_7 : decode cX7_seen 7 = .ok (.iconst (-1), 1) := by decide +kernel
theorem dX7_seen_8 : decode cX7_seen 8 = .ok (.ireturn, 1) := by decide +kernel
theorem dX7_seen_9 : decode cX7_seen 9 = .ok (.iload_n 2, 1) := by decide +kernel
theorem dX7_seen_10 : decode cX7_seen 10 = .ok (.i2l, 1) := by decide +kernel
theorem dX7_seen_11 : decode cX7_seen 11 = .ok (.lconst 0, 1) := by decide +kernel
theorem dX7_seen_12 : decode cX7_seen 12 = .ok (.ldc2_w 79, 3) := by decide +kernel
theorem dX7_seen_15 : decode cX7_seen 15 = .ok (.invokestatic 67, 3) := by decide +kernel
theorem dX7_seen_18 : decode cX7_seen 18 = .ok (.ifCond .eq 13, 3) := by decide +kernel
theorem dX7_seen_21 : decode cX7_seen 21 = .ok (.iload_n 3, 1) := by decide +kernel
theorem dX7_seen_22 : decode cX7_seen 22 = .ok (.i2l, 1) := by decide +kernel
theorem dX7_seen_23 : decode cX7_seen 23 = .ok (.lconst 0, 1) := by decide +kernel
theorem dX7_seen_24 : decode cX7_seen 24 = .ok (.lconst 1, 1) := by decide +kernel
theorem dX7_seen_25 : decode cX7_seen 25 = .ok (.invokestatic 67, 3) := by decide +kernel
theorem dX7_seen_28 : decode cX7_seen 28 = .ok (.ifCond .ne 6, 3) := by decide +kernel
theorem dX7_seen_31 : decode cX7_seen 31 = .ok (.bipush (-2), 2) := by decide +kernel
theorem dX7_seen_33 : decode cX7_seen 33 = .ok (.ireturn, 1) := by decide +kernel
theorem dX7_seen_34 : decode cX7_seen 34 = .ok (.aload_n 0, 1) := by decide +kernel
theorem dX7_seen_35 : decode cX7_seen 35 = .ok (.getfield 172, 3) := by decide +kernel
theorem dX7_seen_38 : decode cX7_seen 38 = .ok (.bipush 6, 2) := by decide +kernel
theorem dX7_seen_40 : decode cX7_seen 40 = .ok (.if_icmp .ne 6, 3) := by decide +kernel
theorem dX7_seen_43 : decode cX7_seen 43 = .ok (.bipush (-4), 2) := by decide +kernel
theorem dX7_seen_45 : decode cX7_seen 45 = .ok (.ireturn, 1) := by decide +kernel
theorem dX7_seen_46 : decode cX7_seen 46 = .ok (.aload_n 0, 1) := by decide +kernel
theorem dX7_seen_47 : decode cX7_seen 47 = .ok (.getfield 25, 3) := by decide +kernel
theorem dX7_seen_50 : decode cX7_seen 50 = .ok (.aload_n 0, 1) := by decide +kernel
theorem dX7_seen_51 : decode cX7_seen 51 = .ok (.getfield 172, 3) := by decide +kernel
theorem dX7_seen_54 : decode cX7_seen 54 = .ok (.iload_n 1, 1) := by decide +kernel
theorem dX7_seen_55 : decode cX7_seen 55 = .ok (.iastore, 1) := by decide +kernel
theorem dX7_seen_56 : decode cX7_seen 56 = .ok (.aload_n 0, 1) := by decide +kernel
theorem dX7_seen_57 : decode cX7_seen 57 = .ok (.getfield 28, 3) := by decide +kernel
theorem dX7_seen_60 : decode cX7_seen 60 = .ok (.aload_n 0, 1) := by decide +kernel
theorem dX7_seen_61 : decode cX7_seen 61 = .ok (.getfield 172, 3) := by decide +kernel
theorem dX7_seen_64 : decode cX7_seen 64 = .ok (.iload_n 2, 1) := by decide +kernel
theorem dX7_seen_65 : decode cX7_seen 65 = .ok (.iastore, 1) := by decide +kernel
theorem dX7_seen_66 : decode cX7_seen 66 = .ok (.aload_n 0, 1) := by decide +kernel
theorem dX7_seen_67 : decode cX7_seen 67 = .ok (.getfield 31, 3) := by decide +kernel
theorem dX7_seen_70 : decode cX7_seen 70 = .ok (.aload_n 0, 1) := by decide +kernel
theorem dX7_seen_71 : decode cX7_seen 71 = .ok (.getfield 172, 3) := by decide +kernel
theorem dX7_seen_74 : decode cX7_seen 74 = .ok (.iload_n 3, 1) := by decide +kernel
theorem dX7_seen_75 : decode cX7_seen 75 = .ok (.iastore, 1) := by decide +kernel
theorem dX7_seen_76 : decode cX7_seen 76 = .ok (.aload_n 0, 1) := by decide +kernel
theorem dX7_seen_77 : decode cX7_seen 77 = .ok (.dup, 1) := by decide +kernel
theorem dX7_seen_78 : decode cX7_seen 78 = .ok (.getfield 172, 3) := by decide +kernel
theorem dX7_seen_81 : decode cX7_seen 81 = .ok (.iconst 1, 1) := by decide +kernel
theorem dX7_seen_82 : decode cX7_seen 82 = .ok (.iadd, 1) := by decide +kernel
theorem dX7_seen_83 : decode cX7_seen 83 = .ok (.putfield 172, 3) := by decide +kernel
theorem dX7_seen_86 : decode cX7_seen 86 = .ok (.aload_n 0, 1) := by decide +kernel
theorem dX7_seen_87 : decode cX7_seen 87 = .ok (.getfield 172, 3) := by decide +kernel
theorem dX7_seen_90 : decode cX7_seen 90 = .ok (.ireturn, 1) := by decide +kernel
theorem dX7_forget_0 : decode cX7_forget 0 = .ok (.aload_n 0, 1) := by decide +kernel
theorem dX7_forget_1 : decode cX7_forget 1 = .ok (.getfield 172, 3) := by decide +kernel
theorem dX7_forget_4 : decode cX7_forget 4 = .ok (.istore_n 1, 1) := by decide +kernel
theorem dX7_forget_5 : decode cX7_forget 5 = .ok (.aload_n 0, 1) := by decide +kernel
theorem dX7_forget_6 : decode cX7_forget 6 = .ok (.iconst 0, 1) := by decide +kernel
theorem dX7_forget_7 : decode cX7_forget 7 = .ok (.putfield 172, 3) := by decide +kernel
theorem dX7_forget_10 : decode cX7_forget 10 = .ok (.iload_n 1, 1) := by decide +kernel
theorem dX7_forget_11 : decode cX7_forget 11 = .ok (.ireturn, 1) := by decide +kernel
theorem dX7_isAsSeen_0 : decode cX7_isAsSeen 0 = .ok (.aload_n 0, 1) := by decide +kernel
theorem dX7_isAsSeen_1 : decode cX7_isAsSeen 1 = .ok (.iload_n 1, 1) := by decide +kernel
theorem dX7_isAsSeen_2 : decode cX7_isAsSeen 2 = .ok (.invokevirtual 127, 3) := by decide +kernel
theorem dX7_isAsSeen_5 : decode cX7_isAsSeen 5 = .ok (.ifCond .ne 5, 3) := by decide +kernel
theorem dX7_isAsSeen_8 : decode cX7_isAsSeen 8 = .ok (.iconst 0, 1) := by decide +kernel
theorem dX7_isAsSeen_9 : decode cX7_isAsSeen 9 = .ok (.ireturn, 1) := by decide +kernel
theorem dX7_isAsSeen_10 : decode cX7_isAsSeen 10 = .ok (.aload_n 0, 1) := by decide +kernel
theorem dX7_isAsSeen_11 : decode cX7_isAsSeen 11 = .ok (.iload_n 1, 1) := by decide +kernel
theorem dX7_isAsSeen_12 : decode cX7_isAsSeen 12 = .ok (.invokevirtual 130, 3) := by decide +kernel
theorem dX7_isAsSeen_15 : decode cX7_isAsSeen 15 = .ok (.iconst 1, 1) := by decide +kernel
theorem dX7_isAsSeen_16 : decode cX7_isAsSeen 16 = .ok (.istore_n 2, 1) := by decide +kernel
theorem dX7_isAsSeen_17 : decode cX7_isAsSeen 17 = .ok (.iconst 0, 1) := by decide +kernel
theorem dX7_isAsSeen_18 : decode cX7_isAsSeen 18 = .ok (.istore_n 3, 1) := by decide +kernel
theorem dX7_isAsSeen_19 : decode cX7_isAsSeen 19 = .ok (.iload_n 3, 1) := by decide +kernel
theorem dX7_isAsSeen_20 : decode cX7_isAsSeen 20 = .ok (.aload_n 0, 1) := by decide +kernel
theorem dX7_isAsSeen_21 : decode cX7_isAsSeen 21 = .ok (.getfield 172, 3) := by decide +kernel
theorem dX7_isAsSeen_24 : decode cX7_isAsSeen 24 = .ok (.if_icmp .ge 66, 3) := by decide +kernel
theorem dX7_isAsSeen_27 : decode cX7_isAsSeen 27 = .ok (.aload_n 0, 1) := by decide +kernel
theorem dX7_isAsSeen_28 : decode cX7_isAsSeen 28 = .ok (.getfield 37, 3) := by decide +kernel
theorem dX7_isAsSeen_31 : decode cX7_isAsSeen 31 = .ok (.aload_n 0, 1) := by decide +kernel
theorem dX7_isAsSeen_32 : decode cX7_isAsSeen 32 = .ok (.getfield 25, 3) := by decide +kernel
theorem dX7_isAsSeen_35 : decode cX7_isAsSeen 35 = .ok (.iload_n 3, 1) := by decide +kernel
theorem dX7_isAsSeen_36 : decode cX7_isAsSeen 36 = .ok (.iaload, 1) := by decide +kernel
theorem dX7_isAsSeen_37 : decode cX7_isAsSeen 37 = .ok (.iaload, 1) := by decide +kernel
theorem dX7_isAsSeen_38 : decode cX7_isAsSeen 38 = .ok (.istore 4, 2) := by decide +kernel
theorem dX7_isAsSeen_40 : decode cX7_isAsSeen 40 = .ok (.iload_n 2, 1) := by decide +kernel
theorem dX7_isAsSeen_41 : decode cX7_isAsSeen 41 = .ok (.ifCond .eq 41, 3) := by decide +kernel
theorem dX7_isAsSeen_44 : decode cX7_isAsSeen 44 = .ok (.aload_n 0, 1) := by decide +kernel
theorem dX7_isAsSeen_45 : decode cX7_isAsSeen 45 = .ok (.getfield 31, 3) := by decide +kernel
theorem dX7_isAsSeen_48 : decode cX7_isAsSeen 48 = .ok (.iload_n 3, 1) := by decide +kernel
theorem dX7_isAsSeen_49 : decode cX7_isAsSeen 49 = .ok (.iaload, 1) := by decide +kernel
theorem dX7_isAsSeen_50 : decode cX7_isAsSeen 50 = .ok (.ifCond .ne 17, 3) := by decide +kernel
theorem dX7_isAsSeen_53 : decode cX7_isAsSeen 53 = .ok (.iload 4, 2) := by decide +kernel
theorem dX7_isAsSeen_55 : decode cX7_isAsSeen 55 = .ok (.aload_n 0, 1) := by decide +kernel
theorem dX7_isAsSeen_56 : decode cX7_isAsSeen 56 = .ok (.getfield 28, 3) := by decide +kernel
theorem dX7_isAsSeen_59 : decode cX7_isAsSeen 59 = .ok (.iload_n 3, 1) := by decide +kernel
theorem dX7_isAsSeen_60 : decode cX7_isAsSeen 60 = .ok (.iaload, 1) := by decide +kernel
theorem dX7_isAsSeen_61 : decode cX7_isAsSeen 61 = .ok (.if_icmp .ne 21, 3) := by decide +kernel
theorem dX7_isAsSeen_64 : decode cX7_isAsSeen 64 = .ok (.goto 14, 3) := by decide +kernel
theorem dX7_isAsSeen_67 : decode cX7_isAsSeen 67 = .ok (.iload 4, 2) := by decide +kernel
theorem dX7_isAsSeen_69 : decode cX7_isAsSeen 69 = .ok (.aload_n 0, 1) := by decide +kernel
theorem dX7_isAsSeen_70 : decode cX7_isAsSeen 70 = .ok (.getfield 28, 3) := by decide +kernel
theorem dX7_isAsSeen_73 : decode cX7_isAsSeen 73 = .ok (.iload_n 3, 1) := by decide +kernel
theorem dX7_isAsSeen_74 : decode cX7_isAsSeen 74 = .ok (.iaload, 1) := by decide +kernel
theorem dX7_isAsSeen_75 : decode cX7_isAsSeen 75 = .ok (.if_icmp .le 7, 3) := by decide +kernel
theorem dX7_isAsSeen_78 : decode cX7_isAsSeen 78 = .ok (.iconst 1, 1) := by decide +kernel
theorem dX7_isAsSeen_79 : decode cX7_isAsSeen 79 = .ok (.goto 4, 3) := by decide +kernel
theorem dX7_isAsSeen_82 : decode cX7_isAsSeen 82 = .ok (.iconst 0, 1) := by decide +kernel
theorem dX7_isAsSeen_83 : decode cX7_isAsSeen 83 = .ok (.istore_n 2, 1) := by decide +kernel
theorem dX7_isAsSeen_84 : decode cX7_isAsSeen 84 = .ok (.iinc 3 1, 3) := by decide +kernel
theorem dX7_isAsSeen_87 : decode cX7_isAsSeen 87 = .ok (.goto (-68), 3) := by decide +kernel
theorem dX7_isAsSeen_90 : decode cX7_isAsSeen 90 = .ok (.iload_n 2, 1) := by decide +kernel
theorem dX7_isAsSeen_91 : decode cX7_isAsSeen 91 = .ok (.ireturn, 1) := by decide +kernel
theorem dX7_fits_0 : decode cX7_fits 0 = .ok (.iload_n 1, 1) := by decide +kernel
theorem dX7_fits_1 : decode cX7_fits 1 = .ok (.iload_n 2, 1) := by decide +kernel
theorem dX7_fits_2 : decode cX7_fits 2 = .ok (.invokestatic 133, 3) := by decide +kernel
theorem dX7_fits_5 : decode cX7_fits 5 = .ok (.ifCond .ne 6, 3) := by decide +kernel
theorem dX7_fits_8 : decode cX7_fits 8 = .ok (.bipush (-2), 2) := by decide +kernel
theorem dX7_fits_10 : decode cX7_fits 10 = .ok (.ireturn, 1) := by decide +kernel
theorem dX7_fits_11 : decode cX7_fits 11 = .ok (.aload_n 0, 1) := by decide +kernel
theorem dX7_fits_12 : decode cX7_fits 12 = .ok (.invokevirtual 124, 3) := by decide +kernel
theorem dX7_fits_15 : decode cX7_fits 15 = .ok (.iconst 0, 1) := by decide +kernel
theorem dX7_fits_16 : decode cX7_fits 16 = .ok (.istore 4, 2) := by decide +kernel
theorem dX7_fits_18 : decode cX7_fits 18 = .ok (.iload_n 1, 1) := by decide +kernel
theorem dX7_fits_19 : decode cX7_fits 19 = .ok (.istore 5, 2) := by decide +kernel
theorem dX7_fits_21 : decode cX7_fits 21 = .ok (.iload 5, 2) := by decide +kernel
theorem dX7_fits_23 : decode cX7_fits 23 = .ok (.iload_n 2, 1) := by decide +kernel
theorem dX7_fits_24 : decode cX7_fits 24 = .ok (.if_icmp .gt 30, 3) := by decide +kernel
theorem dX7_fits_27 : decode cX7_fits 27 = .ok (.aload_n 0, 1) := by decide +kernel
theorem dX7_fits_28 : decode cX7_fits 28 = .ok (.iload 5, 2) := by decide +kernel
theorem dX7_fits_30 : decode cX7_fits 30 = .ok (.invokevirtual 175, 3) := by decide +kernel
theorem dX7_fits_33 : decode cX7_fits 33 = .ok (.ifCond .eq 15, 3) := by decide +kernel
theorem dX7_fits_36 : decode cX7_fits 36 = .ok (.iload 4, 2) := by decide +kernel
theorem dX7_fits_38 : decode cX7_fits 38 = .ok (.iload_n 3, 1) := by decide +kernel
theorem dX7_fits_39 : decode cX7_fits 39 = .ok (.if_icmp .ne 6, 3) := by decide +kernel
theorem dX7_fits_42 : decode cX7_fits 42 = .ok (.iload 5, 2) := by decide +kernel
theorem dX7_fits_44 : decode cX7_fits 44 = .ok (.ireturn, 1) := by decide +kernel
theorem dX7_fits_45 : decode cX7_fits 45 = .ok (.iinc 4 1, 3) := by decide +kernel
theorem dX7_fits_48 : decode cX7_fits 48 = .ok (.iinc 5 1, 3) := by decide +kernel
theorem dX7_fits_51 : decode cX7_fits 51 = .ok (.goto (-30), 3) := by decide +kernel
theorem dX7_fits_54 : decode cX7_fits 54 = .ok (.iload_n 3, 1) := by decide +kernel
theorem dX7_fits_55 : decode cX7_fits 55 = .ok (.iconst (-1), 1) := by decide +kernel
theorem dX7_fits_56 : decode cX7_fits 56 = .ok (.if_icmp .ne 8, 3) := by decide +kernel
theorem dX7_fits_59 : decode cX7_fits 59 = .ok (.iload 4, 2) := by decide +kernel
theorem dX7_fits_61 : decode cX7_fits 61 = .ok (.goto 5, 3) := by decide +kernel
theorem dX7_fits_64 : decode cX7_fits 64 = .ok (.bipush (-6), 2) := by decide +kernel
theorem dX7_fits_66 : decode cX7_fits 66 = .ok (.ireturn, 1) := by decide +kernel
theorem dX7_row_0 : decode cX7_row 0 = .ok (.iload_n 1, 1) := by decide +kernel
theorem dX7_row_1 : decode cX7_row 1 = .ok (.invokestatic 117, 3) := by decide +kernel
theorem dX7_row_4 : decode cX7_row 4 = .ok (.ifCond .ne 6, 3) := by decide +kernel
theorem dX7_row_7 : decode cX7_row 7 = .ok (.bipush (-2), 2) := by decide +kernel
theorem dX7_row_9 : decode cX7_row 9 = .ok (.ireturn, 1) := by decide +kernel
theorem dX7_row_10 : decode cX7_row 10 = .ok (.aload_n 0, 1) := by decide +kernel
theorem dX7_row_11 : decode cX7_row 11 = .ok (.iconst 0, 1) := by decide +kernel
theorem dX7_row_12 : decode cX7_row 12 = .ok (.iconst 2, 1) := by decide +kernel
theorem dX7_row_13 : decode cX7_row 13 = .ok (.invokevirtual 113, 3) := by decide +kernel
theorem dX7_row_16 : decode cX7_row 16 = .ok (.iconst 0, 1) := by decide +kernel
theorem dX7_row_17 : decode cX7_row 17 = .ok (.istore_n 2, 1) := by decide +kernel
theorem dX7_row_18 : decode cX7_row 18 = .ok (.iload_n 2, 1) := by decide +kernel
theorem dX7_row_19 : decode cX7_row 19 = .ok (.sipush 1000, 3) := by decide +kernel
theorem dX7_row_22 : decode cX7_row 22 = .ok (.if_icmp .ge 29, 3) := by decide +kernel
theorem dX7_row_25 : decode cX7_row 25 = .ok (.aload_n 0, 1) := by decide +kernel
theorem dX7_row_26 : decode cX7_row 26 = .ok (.getfield 56, 3) := by decide +kernel
theorem dX7_row_29 : decode cX7_row 29 = .ok (.iload_n 2, 1) := by decide +kernel
theorem dX7_row_30 : decode cX7_row 30 = .ok (.aload_n 0, 1) := by decide +kernel
theorem dX7_row_31 : decode cX7_row 31 = .ok (.getfield 40, 3) := by decide +kernel
theorem dX7_row_34 : decode cX7_row 34 = .ok (.iload_n 2, 1) := by decide +kernel
theorem dX7_row_35 : decode cX7_row 35 = .ok (.iaload, 1) := by decide +kernel
theorem dX7_row_36 : decode cX7_row 36 = .ok (.ifCond .lt 7, 3) := by decide +kernel
theorem dX7_row_39 : decode cX7_row 39 = .ok (.iconst 1, 1) := by decide +kernel
theorem dX7_row_40 : decode cX7_row 40 = .ok (.goto 4, 3) := by decide +kernel
theorem dX7_row_43 : decode cX7_row 43 = .ok (.iconst 0, 1) := by decide +kernel
theorem dX7_row_44 : decode cX7_row 44 = .ok (.bastore, 1) := by decide +kernel
theorem dX7_row_45 : decode cX7_row 45 = .ok (.iinc 2 1, 3) := by decide +kernel
theorem dX7_row_48 : decode cX7_row 48 = .ok (.goto (-30), 3) := by decide +kernel
theorem dX7_row_51 : decode cX7_row 51 = .ok (.aload_n 0, 1) := by decide +kernel
theorem dX7_row_52 : decode cX7_row 52 = .ok (.iconst 3, 1) := by decide +kernel
theorem dX7_row_53 : decode cX7_row 53 = .ok (.iconst 5, 1) := by decide +kernel
theorem dX7_row_54 : decode cX7_row 54 = .ok (.invokevirtual 113, 3) := by decide +kernel
theorem dX7_row_57 : decode cX7_row 57 = .ok (.iconst 0, 1) := by decide +kernel
theorem dX7_row_58 : decode cX7_row 58 = .ok (.istore_n 2, 1) := by decide +kernel
theorem dX7_row_59 : decode cX7_row 59 = .ok (.iconst 0, 1) := by decide +kernel
theorem dX7_row_60 : decode cX7_row 60 = .ok (.istore_n 3, 1) := by decide +kernel
theorem dX7_row_61 : decode cX7_row 61 = .ok (.iload_n 3, 1) := by decide +kernel
theorem dX7_row_62 : decode cX7_row 62 = .ok (.iload_n 1, 1) := by decide +kernel
theorem dX7_row_63 : decode cX7_row 63 = .ok (.if_icmp .gt 41, 3) := by decide +kernel
theorem dX7_row_66 : decode cX7_row 66 = .ok (.iload_n 2, 1) := by decide +kernel
theorem dX7_row_67 : decode cX7_row 67 = .ok (.aload_n 0, 1) := by decide +kernel
theorem dX7_row_68 : decode cX7_row 68 = .ok (.getfield 56, 3) := by decide +kernel
theorem dX7_row_71 : decode cX7_row 71 = .ok (.iload_n 3, 1) := by decide +kernel
theorem dX7_row_72 : decode cX7_row 72 = .ok (.baload, 1) := by decide +kernel
theorem dX7_row_73 : decode cX7_row 73 = .ok (.ifCond .eq 22, 3) := by decide +kernel
theorem dX7_row_76 : decode cX7_row 76 = .ok (.aload_n 0, 1) := by decide +kernel
theorem dX7_row_77 : decode cX7_row 77 = .ok (.getfield 40, 3) := by decide +kernel
theorem dX7_row_80 : decode cX7_row 80 = .ok (.sipush 3000, 3) := by decide +kernel
theorem dX7_row_83 : decode cX7_row 83 = .ok (.iload_n 1, 1) := by decide +kernel
theorem dX7_row_84 : decode cX7_row 84 = .ok (.iadd, 1) := by decide +kernel
theorem dX7_row_85 : decode cX7_row 85 = .ok (.iload_n 3, 1) := by decide +kernel
theorem dX7_row_86 : decode cX7_row 86 = .ok (.isub, 1) := by decide +kernel
theorem dX7_row_87 : decode cX7_row 87 = .ok (.iaload, 1) := by decide +kernel
theorem dX7_row_88 : decode cX7_row 88 = .ok (.ifCond .lt 7, 3) := by decide +kernel
theorem dX7_row_91 : decode cX7_row 91 = .ok (.iconst 1, 1) := by decide +kernel
theorem dX7_row_92 : decode cX7_row 92 = .ok (.goto 4, 3) := by decide +kernel
theorem dX7_row_95 : decode cX7_row 95 = .ok (.iconst 0, 1) := by decide +kernel
theorem dX7_row_96 : decode cX7_row 96 = .ok (.iadd, 1) := by decide +kernel
theorem dX7_row_97 : decode cX7_row 97 = .ok (.istore_n 2, 1) := by decide +kernel
theorem dX7_row_98 : decode cX7_row 98 = .ok (.iinc 3 1, 3) := by decide +kernel
theorem dX7_row_101 : decode cX7_row 101 = .ok (.goto (-40), 3) := by decide +kernel
theorem dX7_row_104 : decode cX7_row 104 = .ok (.iload_n 2, 1) := by decide +kernel
theorem dX7_row_105 : decode cX7_row 105 = .ok (.ireturn, 1) := by decide +kernel
theorem dX7_year_0 : decode cX7_year 0 = .ok (.iload_n 1, 1) := by decide +kernel
theorem dX7_year_1 : decode cX7_year 1 = .ok (.i2l, 1) := by decide +kernel
theorem dX7_year_2 : decode cX7_year 2 = .ok (.lconst 0, 1) := by decide +kernel
theorem dX7_year_3 : decode cX7_year 3 = .ok (.ldc2_w 178, 3) := by decide +kernel
theorem dX7_year_6 : decode cX7_year 6 = .ok (.invokestatic 67, 3) := by decide +kernel
theorem dX7_year_9 : decode cX7_year 9 = .ok (.ifCond .eq 25, 3) := by decide +kernel
theorem dX7_year_12 : decode cX7_year 12 = .ok (.iload_n 2, 1) := by decide +kernel
theorem dX7_year_13 : decode cX7_year 13 = .ok (.i2l, 1) := by decide +kernel
theorem dX7_year_14 : decode cX7_year 14 = .ok (.lconst 1, 1) := by decide +kernel
theorem dX7_year_15 : decode cX7_year 15 = .ok (.ldc2_w 77, 3) := by decide +kernel
theorem dX7_year_18 : decode cX7_year 18 = .ok (.invokestatic 67, 3) := by decide +kernel
theorem dX7_year_21 : decode cX7_year 21 = .ok (.ifCond .eq 13, 3) := by decide +kernel
theorem dX7_year_24 : decode cX7_year 24 = .ok (.iload_n 3, 1) := by decide +kernel
theorem dX7_year_25 : decode cX7_year 25 = .ok (.i2l, 1) := by decide +kernel
theorem dX7_year_26 : decode cX7_year 26 = .ok (.lconst 0, 1) := by decide +kernel
theorem dX7_year_27 : decode cX7_year 27 = .ok (.lconst 1, 1) := by decide +kernel
theorem dX7_year_28 : decode cX7_year 28 = .ok (.invokestatic 67, 3) := by decide +kernel
theorem dX7_year_31 : decode cX7_year 31 = .ok (.ifCond .ne 6, 3) := by decide +kernel
theorem dX7_year_34 : decode cX7_year 34 = .ok (.bipush (-2), 2) := by decide +kernel
theorem dX7_year_36 : decode cX7_year 36 = .ok (.ireturn, 1) := by decide +kernel
theorem dX7_year_37 : decode cX7_year 37 = .ok (.aload_n 0, 1) := by decide +kernel
theorem dX7_year_38 : decode cX7_year 38 = .ok (.invokevirtual 124, 3) := by decide +kernel
theorem dX7_year_41 : decode cX7_year 41 = .ok (.iload_n 1, 1) := by decide +kernel
theorem dX7_year_42 : decode cX7_year 42 = .ok (.istore 4, 2) := by decide +kernel
theorem dX7_year_44 : decode cX7_year 44 = .ok (.iconst 0, 1) := by decide +kernel
theorem dX7_year_45 : decode cX7_year 45 = .ok (.istore 5, 2) := by decide +kernel
theorem dX7_year_47 : decode cX7_year 47 = .ok (.iconst 0, 1) := by decide +kernel
theorem dX7_year_48 : decode cX7_year 48 = .ok (.istore 6, 2) := by decide +kernel
theorem dX7_year_50 : decode cX7_year 50 = .ok (.iconst 0, 1) := by decide +kernel
theorem dX7_year_51 : decode cX7_year 51 = .ok (.istore 7, 2) := by decide +kernel
theorem dX7_year_53 : decode cX7_year 53 = .ok (.iload 7, 2) := by decide +kernel
theorem dX7_year_55 : decode cX7_year 55 = .ok (.iload_n 2, 1) := by decide +kernel
theorem dX7_year_56 : decode cX7_year 56 = .ok (.if_icmp .ge 83, 3) := by decide +kernel
theorem dX7_year_59 : decode cX7_year 59 = .ok (.ldc2_w 180, 3) := by decide +kernel
theorem dX7_year_62 : decode cX7_year 62 = .ok (.iload 4, 2) := by decide +kernel
theorem dX7_year_64 : decode cX7_year 64 = .ok (.i2l, 1) := by decide +kernel
theorem dX7_year_65 : decode cX7_year 65 = .ok (.lmul, 1) := by decide +kernel
theorem dX7_year_66 : decode cX7_year 66 = .ok (.ldc2_w 182, 3) := by decide +kernel
theorem dX7_year_69 : decode cX7_year 69 = .ok (.ladd, 1) := by decide +kernel
theorem dX7_year_70 : decode cX7_year 70 = .ok (.ldc2_w 184, 3) := by decide +kernel
theorem dX7_year_73 : decode cX7_year 73 = .ok (.lrem, 1) := by decide +kernel
theorem dX7_year_74 : decode cX7_year 74 = .ok (.l2i, 1) := by decide +kernel
theorem dX7_year_75 : decode cX7_year 75 = .ok (.istore 4, 2) := by decide +kernel
theorem dX7_year_77 : decode cX7_year 77 = .ok (.iload 5, 2) := by decide +kernel
theorem dX7_year_79 : decode cX7_year 79 = .ok (.aload_n 0, 1) := by decide +kernel
theorem dX7_year_80 : decode cX7_year 80 = .ok (.iload 4, 2) := by decide +kernel
theorem dX7_year_82 : decode cX7_year 82 = .ok (.sipush 200, 3) := by decide +kernel
theorem dX7_year_85 : decode cX7_year 85 = .ok (.irem, 1) := by decide +kernel
theorem dX7_year_86 : decode cX7_year 86 = .ok (.invokevirtual 127, 3) := by decide +kernel
theorem dX7_year_89 : decode cX7_year 89 = .ok (.ifCond .eq 7, 3) := by decide +kernel
theorem dX7_year_92 : decode cX7_year 92 = .ok (.iconst 1, 1) := by decide +kernel
theorem dX7_year_93 : decode cX7_year 93 = .ok (.goto 4, 3) := by decide +kernel
theorem dX7_year_96 : decode cX7_year 96 = .ok (.iconst 0, 1) := by decide +kernel
theorem dX7_year_97 : decode cX7_year 97 = .ok (.iadd, 1) := by decide +kernel
theorem dX7_year_98 : decode cX7_year 98 = .ok (.istore 5, 2) := by decide +kernel
theorem dX7_year_100 : decode cX7_year 100 = .ok (.iload 6, 2) := by decide +kernel
theorem dX7_year_102 : decode cX7_year 102 = .ok (.aload_n 0, 1) := by decide +kernel
theorem dX7_year_103 : decode cX7_year 103 = .ok (.iload 4, 2) := by decide +kernel
theorem dX7_year_105 : decode cX7_year 105 = .ok (.sipush 200, 3) := by decide +kernel
theorem dX7_year_108 : decode cX7_year 108 = .ok (.irem, 1) := by decide +kernel
theorem dX7_year_109 : decode cX7_year 109 = .ok (.invokevirtual 127, 3) := by decide +kernel
theorem dX7_year_112 : decode cX7_year 112 = .ok (.ifCond .eq 17, 3) := by decide +kernel
theorem dX7_year_115 : decode cX7_year 115 = .ok (.aload_n 0, 1) := by decide +kernel
theorem dX7_year_116 : decode cX7_year 116 = .ok (.getfield 40, 3) := by decide +kernel
theorem dX7_year_119 : decode cX7_year 119 = .ok (.iload 4, 2) := by decide +kernel
theorem dX7_year_121 : decode cX7_year 121 = .ok (.sipush 200, 3) := by decide +kernel
theorem dX7_year_124 : decode cX7_year 124 = .ok (.irem, 1) := by decide +kernel
theorem dX7_year_125 : decode cX7_year 125 = .ok (.iaload, 1) := by decide +kernel
theorem dX7_year_126 : decode cX7_year 126 = .ok (.goto 4, 3) := by decide +kernel
theorem dX7_year_129 : decode cX7_year 129 = .ok (.iconst 0, 1) := by decide +kernel
theorem dX7_year_130 : decode cX7_year 130 = .ok (.iadd, 1) := by decide +kernel
theorem dX7_year_131 : decode cX7_year 131 = .ok (.istore 6, 2) := by decide +kernel
theorem dX7_year_133 : decode cX7_year 133 = .ok (.iinc 7 1, 3) := by decide +kernel
theorem dX7_year_136 : decode cX7_year 136 = .ok (.goto (-83), 3) := by decide +kernel
theorem dX7_year_139 : decode cX7_year 139 = .ok (.iload_n 3, 1) := by decide +kernel
theorem dX7_year_140 : decode cX7_year 140 = .ok (.ifCond .ne 8, 3) := by decide +kernel
theorem dX7_year_143 : decode cX7_year 143 = .ok (.iload 5, 2) := by decide +kernel
theorem dX7_year_145 : decode cX7_year 145 = .ok (.goto 5, 3) := by decide +kernel
theorem dX7_year_148 : decode cX7_year 148 = .ok (.iload 6, 2) := by decide +kernel
theorem dX7_year_150 : decode cX7_year 150 = .ok (.ireturn, 1) := by decide +kernel
theorem dX7_pass_0 : decode cX7_pass 0 = .ok (.aload_n 0, 1) := by decide +kernel
theorem dX7_pass_1 : decode cX7_pass 1 = .ok (.getfield 186, 3) := by decide +kernel
theorem dX7_pass_4 : decode cX7_pass 4 = .ok (.ifCond .eq 7, 3) := by decide +kernel
theorem dX7_pass_7 : decode cX7_pass 7 = .ok (.iload_n 1, 1) := by decide +kernel
theorem dX7_pass_8 : decode cX7_pass 8 = .ok (.goto 12, 3) := by decide +kernel
theorem dX7_pass_11 : decode cX7_pass 11 = .ok (.aload_n 0, 1) := by decide +kernel
theorem dX7_pass_12 : decode cX7_pass 12 = .ok (.getfield 59, 3) := by decide +kernel
theorem dX7_pass_15 : decode cX7_pass 15 = .ok (.aload_n 0, 1) := by decide +kernel
theorem dX7_pass_16 : decode cX7_pass 16 = .ok (.getfield 190, 3) := by decide +kernel
theorem dX7_pass_19 : decode cX7_pass 19 = .ok (.iaload, 1) := by decide +kernel
theorem dX7_pass_20 : decode cX7_pass 20 = .ok (.istore_n 2, 1) := by decide +kernel
theorem dX7_pass_21 : decode cX7_pass 21 = .ok (.aload_n 0, 1) := by decide +kernel
theorem dX7_pass_22 : decode cX7_pass 22 = .ok (.getfield 59, 3) := by decide +kernel
theorem dX7_pass_25 : decode cX7_pass 25 = .ok (.aload_n 0, 1) := by decide +kernel
theorem dX7_pass_26 : decode cX7_pass 26 = .ok (.getfield 190, 3) := by decide +kernel
theorem dX7_pass_29 : decode cX7_pass 29 = .ok (.iload_n 2, 1) := by decide +kernel
theorem dX7_pass_30 : decode cX7_pass 30 = .ok (.iastore, 1) := by decide +kernel
theorem dX7_pass_31 : decode cX7_pass 31 = .ok (.aload_n 0, 1) := by decide +kernel
theorem dX7_pass_32 : decode cX7_pass 32 = .ok (.dup, 1) := by decide +kernel
theorem dX7_pass_33 : decode cX7_pass 33 = .ok (.getfield 190, 3) := by decide +kernel
theorem dX7_pass_36 : decode cX7_pass 36 = .ok (.iconst 1, 1) := by decide +kernel
theorem dX7_pass_37 : decode cX7_pass 37 = .ok (.iadd, 1) := by decide +kernel
theorem dX7_pass_38 : decode cX7_pass 38 = .ok (.putfield 190, 3) := by decide +kernel
theorem dX7_pass_41 : decode cX7_pass 41 = .ok (.iload_n 2, 1) := by decide +kernel
theorem dX7_pass_42 : decode cX7_pass 42 = .ok (.ireturn, 1) := by decide +kernel
theorem dX7_passAll_0 : decode cX7_passAll 0 = .ok (.aload_n 0, 1) := by decide +kernel
theorem dX7_passAll_1 : decode cX7_passAll 1 = .ok (.aload_n 0, 1) := by decide +kernel
theorem dX7_passAll_2 : decode cX7_passAll 2 = .ok (.aload_n 0, 1) := by decide +kernel
theorem dX7_passAll_3 : decode cX7_passAll 3 = .ok (.getfield 172, 3) := by decide +kernel
theorem dX7_passAll_6 : decode cX7_passAll 6 = .ok (.invokevirtual 193, 3) := by decide +kernel
theorem dX7_passAll_9 : decode cX7_passAll 9 = .ok (.putfield 172, 3) := by decide +kernel
theorem dX7_passAll_12 : decode cX7_passAll 12 = .ok (.iconst 0, 1) := by decide +kernel
theorem dX7_passAll_13 : decode cX7_passAll 13 = .ok (.istore_n 1, 1) := by decide +kernel
theorem dX7_passAll_14 : decode cX7_passAll 14 = .ok (.iload_n 1, 1) := by decide +kernel
theorem dX7_passAll_15 : decode cX7_passAll 15 = .ok (.bipush 6, 2) := by decide +kernel
theorem dX7_passAll_17 : decode cX7_passAll 17 = .ok (.if_icmp .ge 121, 3) := by decide +kernel
theorem dX7_passAll_20 : decode cX7_passAll 20 = .ok (.aload_n 0, 1) := by decide +kernel
theorem dX7_passAll_21 : decode cX7_passAll 21 = .ok (.getfield 7, 3) := by decide +kernel
theorem dX7_passAll_24 : decode cX7_passAll 24 = .ok (.iload_n 1, 1) := by decide +kernel
theorem dX7_passAll_25 : decode cX7_passAll 25 = .ok (.aload_n 0, 1) := by decide +kernel
theorem dX7_passAll_26 : decode cX7_passAll 26 = .ok (.aload_n 0, 1) := by decide +kernel
theorem dX7_passAll_27 : decode cX7_passAll 27 = .ok (.getfield 7, 3) := by decide +kernel
theorem dX7_passAll_30 : decode cX7_passAll 30 = .ok (.iload_n 1, 1) := by decide +kernel
theorem dX7_passAll_31 : decode cX7_passAll 31 = .ok (.iaload, 1) := by decide +kernel
theorem dX7_passAll_32 : decode cX7_passAll 32 = .ok (.invokevirtual 193, 3) := by decide +kernel
theorem dX7_passAll_35 : decode cX7_passAll 35 = .ok (.iastore, 1) := by decide +kernel
theorem dX7_passAll_36 : decode cX7_passAll 36 = .ok (.aload_n 0, 1) := by decide +kernel
theorem dX7_passAll_37 : decode cX7_passAll 37 = .ok (.getfield 13, 3) := by decide +kernel
theorem dX7_passAll_40 : decode cX7_passAll 40 = .ok (.iload_n 1, 1) := by decide +kernel
theorem dX7_passAll_41 : decode cX7_passAll 41 = .ok (.aload_n 0, 1) := by decide +kernel
theorem dX7_passAll_42 : decode cX7_passAll 42 = .ok (.aload_n 0, 1) := by decide +kernel
theorem dX7_passAll_43 : decode cX7_passAll 43 = .ok (.getfield 13, 3) := by decide +kernel
theorem dX7_passAll_46 : decode cX7_passAll 46 = .ok (.iload_n 1, 1) := by decide +kernel
theorem dX7_passAll_47 : decode cX7_passAll 47 = .ok (.iaload, 1) := by decide +kernel
theorem dX7_passAll_48 : decode cX7_passAll 48 = .ok (.invokevirtual 193, 3) := by decide +kernel
theorem dX7_passAll_51 : decode cX7_passAll 51 = .ok (.iastore, 1) := by decide +kernel
theorem dX7_passAll_52 : decode cX7_passAll 52 = .ok (.aload_n 0, 1) := by decide +kernel
theorem dX7_passAll_53 : decode cX7_passAll 53 = .ok (.getfield 16, 3) := by decide +kernel
theorem dX7_passAll_56 : decode cX7_passAll 56 = .ok (.iload_n 1, 1) := by decide +kernel
theorem dX7_passAll_57 : decode cX7_passAll 57 = .ok (.aload_n 0, 1) := by decide +kernel
theorem dX7_passAll_58 : decode cX7_passAll 58 = .ok (.aload_n 0, 1) := by decide +kernel
theorem dX7_passAll_59 : decode cX7_passAll 59 = .ok (.getfield 16, 3) := by decide +kernel
theorem dX7_passAll_62 : decode cX7_passAll 62 = .ok (.iload_n 1, 1) := by decide +kernel
theorem dX7_passAll_63 : decode cX7_passAll 63 = .ok (.iaload, 1) := by decide +kernel
theorem dX7_passAll_64 : decode cX7_passAll 64 = .ok (.invokevirtual 193, 3) := by decide +kernel
theorem dX7_passAll_67 : decode cX7_passAll 67 = .ok (.iastore, 1) := by decide +kernel
theorem dX7_passAll_68 : decode cX7_passAll 68 = .ok (.aload_n 0, 1) := by decide +kernel
theorem dX7_passAll_69 : decode cX7_passAll 69 = .ok (.getfield 19, 3) := by decide +kernel
theorem dX7_passAll_72 : decode cX7_passAll 72 = .ok (.iload_n 1, 1) := by decide +kernel
theorem dX7_passAll_73 : decode cX7_passAll 73 = .ok (.aload_n 0, 1) := by decide +kernel
theorem dX7_passAll_74 : decode cX7_passAll 74 = .ok (.aload_n 0, 1) := by decide +kernel
theorem dX7_passAll_75 : decode cX7_passAll 75 = .ok (.getfield 19, 3) := by decide +kernel
theorem dX7_passAll_78 : decode cX7_passAll 78 = .ok (.iload_n 1, 1) := by decide +kernel
theorem dX7_passAll_79 : decode cX7_passAll 79 = .ok (.iaload, 1) := by decide +kernel
theorem dX7_passAll_80 : decode cX7_passAll 80 = .ok (.invokevirtual 193, 3) := by decide +kernel
theorem dX7_passAll_83 : decode cX7_passAll 83 = .ok (.iastore, 1) := by decide +kernel
theorem dX7_passAll_84 : decode cX7_passAll 84 = .ok (.aload_n 0, 1) := by decide +kernel
theorem dX7_passAll_85 : decode cX7_passAll 85 = .ok (.getfield 25, 3) := by decide +kernel
theorem dX7_passAll_88 : decode cX7_passAll 88 = .ok (.iload_n 1, 1) := by decide +kernel
theorem dX7_passAll_89 : decode cX7_passAll 89 = .ok (.aload_n 0, 1) := by decide +kernel
theorem dX7_passAll_90 : decode cX7_passAll 90 = .ok (.aload_n 0, 1) := by decide +kernel
theorem dX7_passAll_91 : decode cX7_passAll 91 = .ok (.getfield 25, 3) := by decide +kernel
theorem dX7_passAll_94 : decode cX7_passAll 94 = .ok (.iload_n 1, 1) := by decide +kernel
theorem dX7_passAll_95 : decode cX7_passAll 95 = .ok (.iaload, 1) := by decide +kernel
theorem dX7_passAll_96 : decode cX7_passAll 96 = .ok (.invokevirtual 193, 3) := by decide +kernel
theorem dX7_passAll_99 : decode cX7_passAll 99 = .ok (.iastore, 1) := by decide +kernel
theorem dX7_passAll_100 : decode cX7_passAll 100 = .ok (.aload_n 0, 1) := by decide +kernel
theorem dX7_passAll_101 : decode cX7_passAll 101 = .ok (.getfield 28, 3) := by decide +kernel
theorem dX7_passAll_104 : decode cX7_passAll 104 = .ok (.iload_n 1, 1) := by decide +kernel
theorem dX7_passAll_105 : decode cX7_passAll 105 = .ok (.aload_n 0, 1) := by decide +kernel
theorem dX7_passAll_106 : decode cX7_passAll 106 = .ok (.aload_n 0, 1) := by decide +kernel
theorem dX7_passAll_107 : decode cX7_passAll 107 = .ok (.getfield 28, 3) := by decide +kernel
theorem dX7_passAll_110 : decode cX7_passAll 110 = .ok (.iload_n 1, 1) := by decide +kernel
theorem dX7_passAll_111 : decode cX7_passAll 111 = .ok (.iaload, 1) := by decide +kernel
theorem dX7_passAll_112 : decode cX7_passAll 112 = .ok (.invokevirtual 193, 3) := by decide +kernel
theorem dX7_passAll_115 : decode cX7_passAll 115 = .ok (.iastore, 1) := by decide +kernel
theorem dX7_passAll_116 : decode cX7_passAll 116 = .ok (.aload_n 0, 1) := by decide +kernel
theorem dX7_passAll_117 : decode cX7_passAll 117 = .ok (.getfield 31, 3) := by decide +kernel
theorem dX7_passAll_120 : decode cX7_passAll 120 = .ok (.iload_n 1, 1) := by decide +kernel
theorem dX7_passAll_121 : decode cX7_passAll 121 = .ok (.aload_n 0, 1) := by decide +kernel
theorem dX7_passAll_122 : decode cX7_passAll 122 = .ok (.aload_n 0, 1) := by decide +kernel
theorem dX7_passAll_123 : decode cX7_passAll 123 = .ok (.getfield 31, 3) := by decide +kernel
theorem dX7_passAll_126 : decode cX7_passAll 126 = .ok (.iload_n 1, 1) := by decide +kernel
theorem dX7_passAll_127 : decode cX7_passAll 127 = .ok (.iaload, 1) := by decide +kernel
theorem dX7_passAll_128 : decode cX7_passAll 128 = .ok (.invokevirtual 193, 3) := by decide +kernel
theorem dX7_passAll_131 : decode cX7_passAll 131 = .ok (.iastore, 1) := by decide +kernel
theorem dX7_passAll_132 : decode cX7_passAll 132 = .ok (.iinc 1 1, 3) := by decide +kernel
theorem dX7_passAll_135 : decode cX7_passAll 135 = .ok (.goto (-121), 3) := by decide +kernel
theorem dX7_passAll_138 : decode cX7_passAll 138 = .ok (.iconst 0, 1) := by decide +kernel
theorem dX7_passAll_139 : decode cX7_passAll 139 = .ok (.istore_n 1, 1) := by decide +kernel
theorem dX7_passAll_140 : decode cX7_passAll 140 = .ok (.iload_n 1, 1) := by decide +kernel
theorem dX7_passAll_141 : decode cX7_passAll 141 = .ok (.iconst 4, 1) := by decide +kernel
theorem dX7_passAll_142 : decode cX7_passAll 142 = .ok (.if_icmp .ge 25, 3) := by decide +kernel
theorem dX7_passAll_145 : decode cX7_passAll 145 = .ok (.aload_n 0, 1) := by decide +kernel
theorem dX7_passAll_146 : decode cX7_passAll 146 = .ok (.getfield 22, 3) := by decide +kernel
theorem dX7_passAll_149 : decode cX7_passAll 149 = .ok (.iload_n 1, 1) := by decide +kernel
theorem dX7_passAll_150 : decode cX7_passAll 150 = .ok (.aload_n 0, 1) := by decide +kernel
theorem dX7_passAll_151 : decode cX7_passAll 151 = .ok (.aload_n 0, 1) := by decide +kernel
theorem dX7_passAll_152 : decode cX7_passAll 152 = .ok (.getfield 22, 3) := by decide +kernel
theorem dX7_passAll_155 : decode cX7_passAll 155 = .ok (.iload_n 1, 1) := by decide +kernel
theorem dX7_passAll_156 : decode cX7_passAll 156 = .ok (.iaload, 1) := by decide +kernel
theorem dX7_passAll_157 : decode cX7_passAll 157 = .ok (.invokevirtual 193, 3) := by decide +kernel
theorem dX7_passAll_160 : decode cX7_passAll 160 = .ok (.iastore, 1) := by decide +kernel
theorem dX7_passAll_161 : decode cX7_passAll 161 = .ok (.iinc 1 1, 3) := by decide +kernel
theorem dX7_passAll_164 : decode cX7_passAll 164 = .ok (.goto (-24), 3) := by decide +kernel
theorem dX7_passAll_167 : decode cX7_passAll 167 = .ok (.return_, 1) := by decide +kernel
theorem dX7_image_0 : decode cX7_image 0 = .ok (.iload_n 1, 1) := by decide +kernel
theorem dX7_image_1 : decode cX7_image 1 = .ok (.i2l, 1) := by decide +kernel
theorem dX7_image_2 : decode cX7_image 2 = .ok (.lconst 0, 1) := by decide +kernel
theorem dX7_image_3 : decode cX7_image 3 = .ok (.lconst 1, 1) := by decide +kernel
theorem dX7_image_4 : decode cX7_image 4 = .ok (.invokestatic 67, 3) := by decide +kernel
theorem dX7_image_7 : decode cX7_image 7 = .ok (.ifCond .ne 6, 3) := by decide +kernel
theorem dX7_image_10 : decode cX7_image 10 = .ok (.bipush (-2), 2) := by decide +kernel
theorem dX7_image_12 : decode cX7_image 12 = .ok (.ireturn, 1) := by decide +kernel
theorem dX7_image_13 : decode cX7_image 13 = .ok (.aload_n 0, 1) := by decide +kernel
theorem dX7_image_14 : decode cX7_image 14 = .ok (.bipush 60, 2) := by decide +kernel
theorem dX7_image_16 : decode cX7_image 16 = .ok (.iload_n 1, 1) := by decide +kernel
theorem dX7_image_17 : decode cX7_image 17 = .ok (.imul, 1) := by decide +kernel
theorem dX7_image_18 : decode cX7_image 18 = .ok (.putfield 190, 3) := by decide +kernel
theorem dX7_image_21 : decode cX7_image 21 = .ok (.aload_n 0, 1) := by decide +kernel
theorem dX7_image_22 : decode cX7_image 22 = .ok (.iconst 1, 1) := by decide +kernel
theorem dX7_image_23 : decode cX7_image 23 = .ok (.putfield 186, 3) := by decide +kernel
theorem dX7_image_26 : decode cX7_image 26 = .ok (.aload_n 0, 1) := by decide +kernel
theorem dX7_image_27 : decode cX7_image 27 = .ok (.invokevirtual 196, 3) := by decide +kernel
theorem dX7_image_30 : decode cX7_image 30 = .ok (.aload_n 0, 1) := by decide +kernel
theorem dX7_image_31 : decode cX7_image 31 = .ok (.getfield 62, 3) := by decide +kernel
theorem dX7_image_34 : decode cX7_image 34 = .ok (.iload_n 1, 1) := by decide +kernel
theorem dX7_image_35 : decode cX7_image 35 = .ok (.iconst 1, 1) := by decide +kernel
theorem dX7_image_36 : decode cX7_image 36 = .ok (.bastore, 1) := by decide +kernel
theorem dX7_image_37 : decode cX7_image 37 = .ok (.iconst 1, 1) := by decide +kernel
theorem dX7_image_38 : decode cX7_image 38 = .ok (.ireturn, 1) := by decide +kernel
theorem dX7_restore_0 : decode cX7_restore 0 = .ok (.iload_n 1, 1) := by decide +kernel
theorem dX7_restore_1 : decode cX7_restore 1 = .ok (.i2l, 1) := by decide +kernel
theorem dX7_restore_2 : decode cX7_restore 2 = .ok (.lconst 0, 1) := by decide +kernel
theorem dX7_restore_3 : decode cX7_restore 3 = .ok (.lconst 1, 1) := by decide +kernel
theorem dX7_restore_4 : decode cX7_restore 4 = .ok (.invokestatic 67, 3) := by decide +kernel
theorem dX7_restore_7 : decode cX7_restore 7 = .ok (.ifCond .ne 6, 3) := by decide +kernel
theorem dX7_restore_10 : decode cX7_restore 10 = .ok (.bipush (-2), 2) := by decide +kernel
theorem dX7_restore_12 : decode cX7_restore 12 = .ok (.ireturn, 1) := by decide +kernel
theorem dX7_restore_13 : decode cX7_restore 13 = .ok (.aload_n 0, 1) := by decide +kernel
theorem dX7_restore_14 : decode cX7_restore 14 = .ok (.getfield 62, 3) := by decide +kernel
theorem dX7_restore_17 : decode cX7_restore 17 = .ok (.iload_n 1, 1) := by decide +kernel
theorem dX7_restore_18 : decode cX7_restore 18 = .ok (.baload, 1) := by decide +kernel
theorem dX7_restore_19 : decode cX7_restore 19 = .ok (.ifCond .ne 6, 3) := by decide +kernel
theorem dX7_restore_22 : decode cX7_restore 22 = .ok (.bipush (-3), 2) := by decide +kernel
theorem dX7_restore_24 : decode cX7_restore 24 = .ok (.ireturn, 1) := by decide +kernel
theorem dX7_restore_25 : decode cX7_restore 25 = .ok (.aload_n 0, 1) := by decide +kernel
theorem dX7_restore_26 : decode cX7_restore 26 = .ok (.bipush 60, 2) := by decide +kernel
theorem dX7_restore_28 : decode cX7_restore 28 = .ok (.iload_n 1, 1) := by decide +kernel
theorem dX7_restore_29 : decode cX7_restore 29 = .ok (.imul, 1) := by decide +kernel
theorem dX7_restore_30 : decode cX7_restore 30 = .ok (.putfield 190, 3) := by decide +kernel
theorem dX7_restore_33 : decode cX7_restore 33 = .ok (.aload_n 0, 1) := by decide +kernel
theorem dX7_restore_34 : decode cX7_restore 34 = .ok (.iconst 0, 1) := by decide +kernel
theorem dX7_restore_35 : decode cX7_restore 35 = .ok (.putfield 186, 3) := by decide +kernel
theorem dX7_restore_38 : decode cX7_restore 38 = .ok (.aload_n 0, 1) := by decide +kernel
theorem dX7_restore_39 : decode cX7_restore 39 = .ok (.invokevirtual 196, 3) := by decide +kernel
theorem dX7_restore_42 : decode cX7_restore 42 = .ok (.iconst 1, 1) := by decide +kernel
theorem dX7_restore_43 : decode cX7_restore 43 = .ok (.ireturn, 1) := by decide +kernel
theorem dX7_told_0 : decode cX7_told 0 = .ok (.iload_n 1, 1) := by decide +kernel
theorem dX7_told_1 : decode cX7_told 1 = .ok (.i2l, 1) := by decide +kernel
theorem dX7_told_2 : decode cX7_told 2 = .ok (.ldc2_w 96, 3) := by decide +kernel
theorem dX7_told_5 : decode cX7_told 5 = .ok (.ldc2_w 65, 3) := by decide +kernel
theorem dX7_told_8 : decode cX7_told 8 = .ok (.invokestatic 67, 3) := by decide +kernel
theorem dX7_told_11 : decode cX7_told 11 = .ok (.ifCond .eq 12, 3) := by decide +kernel
theorem dX7_told_14 : decode cX7_told 14 = .ok (.aload_n 0, 1) := by decide +kernel
theorem dX7_told_15 : decode cX7_told 15 = .ok (.getfield 22, 3) := by decide +kernel
theorem dX7_told_18 : decode cX7_told 18 = .ok (.iload_n 1, 1) := by decide +kernel
theorem dX7_told_19 : decode cX7_told 19 = .ok (.iconst 2, 1) := by decide +kernel
theorem dX7_told_20 : decode cX7_told 20 = .ok (.isub, 1) := by decide +kernel
theorem dX7_told_21 : decode cX7_told 21 = .ok (.iaload, 1) := by decide +kernel
theorem dX7_told_22 : decode cX7_told 22 = .ok (.ireturn, 1) := by decide +kernel
theorem dX7_told_23 : decode cX7_told 23 = .ok (.iload_n 1, 1) := by decide +kernel
theorem dX7_told_24 : decode cX7_told 24 = .ok (.i2l, 1) := by decide +kernel
theorem dX7_told_25 : decode cX7_told 25 = .ok (.ldc2_w 199, 3) := by decide +kernel
theorem dX7_told_28 : decode cX7_told 28 = .ok (.ldc2_w 201, 3) := by decide +kernel
theorem dX7_told_31 : decode cX7_told 31 = .ok (.invokestatic 67, 3) := by decide +kernel
theorem dX7_told_34 : decode cX7_told 34 = .ok (.ifCond .eq 71, 3) := by decide +kernel
theorem dX7_told_37 : decode cX7_told 37 = .ok (.iload_n 1, 1) := by decide +kernel
theorem dX7_told_38 : decode cX7_told 38 = .ok (.bipush 10, 2) := by decide +kernel
theorem dX7_told_40 : decode cX7_told 40 = .ok (.irem, 1) := by decide +kernel
theorem dX7_told_41 : decode cX7_told 41 = .ok (.iconst 4, 1) := by decide +kernel
theorem dX7_told_42 : decode cX7_told 42 = .ok (.if_icmp .ge 63, 3) := by decide +kernel
theorem dX7_told_45 : decode cX7_told 45 = .ok (.iload_n 1, 1) := by decide +kernel
theorem dX7_told_46 : decode cX7_told 46 = .ok (.bipush 10, 2) := by decide +kernel
theorem dX7_told_48 : decode cX7_told 48 = .ok (.idiv, 1) := by decide +kernel
theorem dX7_told_49 : decode cX7_told 49 = .ok (.iconst 1, 1) := by decide +kernel
theorem dX7_told_50 : decode cX7_told 50 = .ok (.isub, 1) := by decide +kernel
theorem dX7_told_51 : decode cX7_told 51 = .ok (.istore_n 2, 1) := by decide +kernel
theorem dX7_told_52 : decode cX7_told 52 = .ok (.iload_n 1, 1) := by decide +kernel
theorem dX7_told_53 : decode cX7_told 53 = .ok (.bipush 10, 2) := by decide +kernel
theorem dX7_told_55 : decode cX7_told 55 = .ok (.irem, 1) := by decide +kernel
theorem dX7_told_56 : decode cX7_told 56 = .ok (.istore_n 3, 1) := by decide +kernel
theorem dX7_told_57 : decode cX7_told 57 = .ok (.iload_n 3, 1) := by decide +kernel
theorem dX7_told_58 : decode cX7_told 58 = .ok (.ifCond .ne 12, 3) := by decide +kernel
theorem dX7_told_61 : decode cX7_told 61 = .ok (.aload_n 0, 1) := by decide +kernel
theorem dX7_told_62 : decode cX7_told 62 = .ok (.getfield 7, 3) := by decide +kernel
theorem dX7_told_65 : decode cX7_told 65 = .ok (.iload_n 2, 1) := by decide +kernel
theorem dX7_told_66 : decode cX7_told 66 = .ok (.iaload, 1) := by decide +kernel
theorem dX7_told_67 : decode cX7_told 67 = .ok (.goto 37, 3) := by decide +kernel
theorem dX7_told_70 : decode cX7_told 70 = .ok (.iload_n 3, 1) := by decide +kernel
theorem dX7_told_71 : decode cX7_told 71 = .ok (.iconst 1, 1) := by decide +kernel
theorem dX7_told_72 : decode cX7_told 72 = .ok (.if_icmp .ne 12, 3) := by decide +kernel
theorem dX7_told_75 : decode cX7_told 75 = .ok (.aload_n 0, 1) := by decide +kernel
theorem dX7_told_76 : decode cX7_told 76 = .ok (.getfield 13, 3) := by decide +kernel
theorem dX7_told_79 : decode cX7_told 79 = .ok (.iload_n 2, 1) := by decide +kernel
theorem dX7_told_80 : decode cX7_told 80 = .ok (.iaload, 1) := by decide +kernel
theorem dX7_told_81 : decode cX7_told 81 = .ok (.goto 23, 3) := by decide +kernel
theorem dX7_told_84 : decode cX7_told 84 = .ok (.iload_n 3, 1) := by decide +kernel
theorem dX7_told_85 : decode cX7_told 85 = .ok (.iconst 2, 1) := by decide +kernel
theorem dX7_told_86 : decode cX7_told 86 = .ok (.if_icmp .ne 12, 3) := by decide +kernel
theorem dX7_told_89 : decode cX7_told 89 = .ok (.aload_n 0, 1) := by decide +kernel
theorem dX7_told_90 : decode cX7_told 90 = .ok (.getfield 16, 3) := by decide +kernel
theorem dX7_told_93 : decode cX7_told 93 = .ok (.iload_n 2, 1) := by decide +kernel
theorem dX7_told_94 : decode cX7_told 94 = .ok (.iaload, 1) := by decide +kernel
theorem dX7_told_95 : decode cX7_told 95 = .ok (.goto 9, 3) := by decide +kernel
theorem dX7_told_98 : decode cX7_told 98 = .ok (.aload_n 0, 1) := by decide +kernel
theorem dX7_told_99 : decode cX7_told 99 = .ok (.getfield 19, 3) := by decide +kernel
theorem dX7_told_102 : decode cX7_told 102 = .ok (.iload_n 2, 1) := by decide +kernel
theorem dX7_told_103 : decode cX7_told 103 = .ok (.iaload, 1) := by decide +kernel
theorem dX7_told_104 : decode cX7_told 104 = .ok (.ireturn, 1) := by decide +kernel
theorem dX7_told_105 : decode cX7_told 105 = .ok (.iload_n 1, 1) := by decide +kernel
theorem dX7_told_106 : decode cX7_told 106 = .ok (.ifCond .ne 10, 3) := by decide +kernel
theorem dX7_told_109 : decode cX7_told 109 = .ok (.aload_n 0, 1) := by decide +kernel
theorem dX7_told_110 : decode cX7_told 110 = .ok (.getfield 85, 3) := by decide +kernel
theorem dX7_told_113 : decode cX7_told 113 = .ok (.goto 17, 3) := by decide +kernel
theorem dX7_told_116 : decode cX7_told 116 = .ok (.iload_n 1, 1) := by decide +kernel
theorem dX7_told_117 : decode cX7_told 117 = .ok (.iconst 1, 1) := by decide +kernel
theorem dX7_told_118 : decode cX7_told 118 = .ok (.if_icmp .ne 10, 3) := by decide +kernel
theorem dX7_told_121 : decode cX7_told 121 = .ok (.aload_n 0, 1) := by decide +kernel
theorem dX7_told_122 : decode cX7_told 122 = .ok (.getfield 172, 3) := by decide +kernel
theorem dX7_told_125 : decode cX7_told 125 = .ok (.goto 5, 3) := by decide +kernel
theorem dX7_told_128 : decode cX7_told 128 = .ok (.bipush (-2), 2) := by decide +kernel
theorem dX7_told_130 : decode cX7_told 130 = .ok (.ireturn, 1) := by decide +kernel
