theorem dX10_timeMoved_15 : decode cX10_timeMoved 15 = .ok (.invokevirtual 304, 3) := by decide +kernel
theorem dX10_timeMoved_18 : decode cX10_timeMoved 18 = .ok (.istore 4, 2) := by decide +kernel
theorem dX10_timeMoved_20 : decode cX10_timeMoved 20 = .ok (.aload_n 0, 1) := by decide +kernel
theorem dX10_timeMoved_21 : decode cX10_timeMoved 21 = .ok (.getfield 72, 3) := by decide +kernel
theorem dX10_timeMoved_24 : decode cX10_timeMoved 24 = .ok (.iload_n 1, 1) := by decide +kernel
theorem dX10_timeMoved_25 : decode cX10_timeMoved 25 = .ok (.iload_n 3, 1) := by decide +kernel
theorem dX10_timeMoved_26 : decode cX10_timeMoved 26 = .ok (.iastore, 1) := by decide +kernel
theorem dX10_timeMoved_27 : decode cX10_timeMoved 27 = .ok (.iload 4, 2) := by decide +kernel
theorem dX10_timeMoved_29 : decode cX10_timeMoved 29 = .ok (.ireturn, 1) := by decide +kernel
theorem dX10_timeSwapped_0 : decode cX10_timeSwapped 0 = .ok (.aload_n 0, 1) := by decide +kernel
theorem dX10_timeSwapped_1 : decode cX10_timeSwapped 1 = .ok (.getfield 72, 3) := by decide +kernel
theorem dX10_timeSwapped_4 : decode cX10_timeSwapped 4 = .ok (.iload_n 1, 1) := by decide +kernel
theorem dX10_timeSwapped_5 : decode cX10_timeSwapped 5 = .ok (.iaload, 1) := by decide +kernel
theorem dX10_timeSwapped_6 : decode cX10_timeSwapped 6 = .ok (.istore_n 3, 1) := by decide +kernel
theorem dX10_timeSwapped_7 : decode cX10_timeSwapped 7 = .ok (.aload_n 0, 1) := by decide +kernel
theorem dX10_timeSwapped_8 : decode cX10_timeSwapped 8 = .ok (.getfield 72, 3) := by decide +kernel
theorem dX10_timeSwapped_11 : decode cX10_timeSwapped 11 = .ok (.iload_n 2, 1) := by decide +kernel
theorem dX10_timeSwapped_12 : decode cX10_timeSwapped 12 = .ok (.iaload, 1) := by decide +kernel
theorem dX10_timeSwapped_13 : decode cX10_timeSwapped 13 = .ok (.istore 4, 2) := by decide +kernel
theorem dX10_timeSwapped_15 : decode cX10_timeSwapped 15 = .ok (.aload_n 0, 1) := by decide +kernel
theorem dX10_timeSwapped_16 : decode cX10_timeSwapped 16 = .ok (.getfield 72, 3) := by decide +kernel
theorem dX10_timeSwapped_19 : decode cX10_timeSwapped 19 = .ok (.iload_n 1, 1) := by decide +kernel
theorem dX10_timeSwapped_20 : decode cX10_timeSwapped 20 = .ok (.iload 4, 2) := by decide +kernel
theorem dX10_timeSwapped_22 : decode cX10_timeSwapped 22 = .ok (.iastore, 1) := by decide +kernel
theorem dX10_timeSwapped_23 : decode cX10_timeSwapped 23 = .ok (.aload_n 0, 1) := by decide +kernel
theorem dX10_timeSwapped_24 : decode cX10_timeSwapped 24 = .ok (.getfield 72, 3) := by decide +kernel
theorem dX10_timeSwapped_27 : decode cX10_timeSwapped 27 = .ok (.iload_n 2, 1) := by decide +kernel
theorem dX10_timeSwapped_28 : decode cX10_timeSwapped 28 = .ok (.iload_n 3, 1) := by decide +kernel
theorem dX10_timeSwapped_29 : decode cX10_timeSwapped 29 = .ok (.iastore, 1) := by decide +kernel
theorem dX10_timeSwapped_30 : decode cX10_timeSwapped 30 = .ok (.aload_n 0, 1) := by decide +kernel
theorem dX10_timeSwapped_31 : decode cX10_timeSwapped 31 = .ok (.invokevirtual 304, 3) := by decide +kernel
theorem dX10_timeSwapped_34 : decode cX10_timeSwapped 34 = .ok (.istore 5, 2) := by decide +kernel
theorem dX10_timeSwapped_36 : decode cX10_timeSwapped 36 = .ok (.aload_n 0, 1) := by decide +kernel
theorem dX10_timeSwapped_37 : decode cX10_timeSwapped 37 = .ok (.getfield 72, 3) := by decide +kernel
theorem dX10_timeSwapped_40 : decode cX10_timeSwapped 40 = .ok (.iload_n 1, 1) := by decide +kernel
theorem dX10_timeSwapped_41 : decode cX10_timeSwapped 41 = .ok (.iload_n 3, 1) := by decide +kernel
theorem dX10_timeSwapped_42 : decode cX10_timeSwapped 42 = .ok (.iastore, 1) := by decide +kernel
theorem dX10_timeSwapped_43 : decode cX10_timeSwapped 43 = .ok (.aload_n 0, 1) := by decide +kernel
theorem dX10_timeSwapped_44 : decode cX10_timeSwapped 44 = .ok (.getfield 72, 3) := by decide +kernel
theorem dX10_timeSwapped_47 : decode cX10_timeSwapped 47 = .ok (.iload_n 2, 1) := by decide +kernel
theorem dX10_timeSwapped_48 : decode cX10_timeSwapped 48 = .ok (.iload 4, 2) := by decide +kernel
theorem dX10_timeSwapped_50 : decode cX10_timeSwapped 50 = .ok (.iastore, 1) := by decide +kernel
theorem dX10_timeSwapped_51 : decode cX10_timeSwapped 51 = .ok (.iload 5, 2) := by decide +kernel
theorem dX10_timeSwapped_53 : decode cX10_timeSwapped 53 = .ok (.ireturn, 1) := by decide +kernel
theorem dX10_isFree_0 : decode cX10_isFree 0 = .ok (.aload_n 0, 1) := by decide +kernel
theorem dX10_isFree_1 : decode cX10_isFree 1 = .ok (.getfield 7, 3) := by decide +kernel
theorem dX10_isFree_4 : decode cX10_isFree 4 = .ok (.sipush 129, 3) := by decide +kernel
theorem dX10_isFree_7 : decode cX10_isFree 7 = .ok (.iload_n 1, 1) := by decide +kernel
theorem dX10_isFree_8 : decode cX10_isFree 8 = .ok (.iadd, 1) := by decide +kernel
theorem dX10_isFree_9 : decode cX10_isFree 9 = .ok (.iaload, 1) := by decide +kernel
theorem dX10_isFree_10 : decode cX10_isFree 10 = .ok (.iconst (-1), 1) := by decide +kernel
theorem dX10_isFree_11 : decode cX10_isFree 11 = .ok (.if_icmp .ne 7, 3) := by decide +kernel
theorem dX10_isFree_14 : decode cX10_isFree 14 = .ok (.iconst 1, 1) := by decide +kernel
theorem dX10_isFree_15 : decode cX10_isFree 15 = .ok (.goto 4, 3) := by decide +kernel
theorem dX10_isFree_18 : decode cX10_isFree 18 = .ok (.iconst 0, 1) := by decide +kernel
theorem dX10_isFree_19 : decode cX10_isFree 19 = .ok (.ireturn, 1) := by decide +kernel
theorem dX10_whyNot_0 : decode cX10_whyNot 0 = .ok (.aload_n 0, 1) := by decide +kernel
theorem dX10_whyNot_1 : decode cX10_whyNot 1 = .ok (.invokevirtual 307, 3) := by decide +kernel
theorem dX10_whyNot_4 : decode cX10_whyNot 4 = .ok (.ifCond .eq 27, 3) := by decide +kernel
theorem dX10_whyNot_7 : decode cX10_whyNot 7 = .ok (.aload_n 0, 1) := by decide +kernel
theorem dX10_whyNot_8 : decode cX10_whyNot 8 = .ok (.iload_n 1, 1) := by decide +kernel
theorem dX10_whyNot_9 : decode cX10_whyNot 9 = .ok (.invokevirtual 252, 3) := by decide +kernel
theorem dX10_whyNot_12 : decode cX10_whyNot 12 = .ok (.ifCond .eq 19, 3) := by decide +kernel
theorem dX10_whyNot_15 : decode cX10_whyNot 15 = .ok (.iload_n 2, 1) := by decide +kernel
theorem dX10_whyNot_16 : decode cX10_whyNot 16 = .ok (.i2l, 1) := by decide +kernel
theorem dX10_whyNot_17 : decode cX10_whyNot 17 = .ok (.lconst 0, 1) := by decide +kernel
theorem dX10_whyNot_18 : decode cX10_whyNot 18 = .ok (.aload_n 0, 1) := by decide +kernel
theorem dX10_whyNot_19 : decode cX10_whyNot 19 = .ok (.invokevirtual 218, 3) := by decide +kernel
theorem dX10_whyNot_22 : decode cX10_whyNot 22 = .ok (.iconst 1, 1) := by decide +kernel
theorem dX10_whyNot_23 : decode cX10_whyNot 23 = .ok (.isub, 1) := by decide +kernel
theorem dX10_whyNot_24 : decode cX10_whyNot 24 = .ok (.i2l, 1) := by decide +kernel
theorem dX10_whyNot_25 : decode cX10_whyNot 25 = .ok (.invokestatic 96, 3) := by decide +kernel
theorem dX10_whyNot_28 : decode cX10_whyNot 28 = .ok (.ifCond .ne 6, 3) := by decide +kernel
theorem dX10_whyNot_31 : decode cX10_whyNot 31 = .ok (.bipush (-2), 2) := by decide +kernel
theorem dX10_whyNot_33 : decode cX10_whyNot 33 = .ok (.ireturn, 1) := by decide +kernel
theorem dX10_whyNot_34 : decode cX10_whyNot 34 = .ok (.aload_n 0, 1) := by decide +kernel
theorem dX10_whyNot_35 : decode cX10_whyNot 35 = .ok (.iload_n 1, 1) := by decide +kernel
theorem dX10_whyNot_36 : decode cX10_whyNot 36 = .ok (.invokevirtual 324, 3) := by decide +kernel
theorem dX10_whyNot_39 : decode cX10_whyNot 39 = .ok (.ifCond .eq 25, 3) := by decide +kernel
theorem dX10_whyNot_42 : decode cX10_whyNot 42 = .ok (.aload_n 0, 1) := by decide +kernel
theorem dX10_whyNot_43 : decode cX10_whyNot 43 = .ok (.iload_n 2, 1) := by decide +kernel
theorem dX10_whyNot_44 : decode cX10_whyNot 44 = .ok (.invokevirtual 255, 3) := by decide +kernel
theorem dX10_whyNot_47 : decode cX10_whyNot 47 = .ok (.iconst (-1), 1) := by decide +kernel
theorem dX10_whyNot_48 : decode cX10_whyNot 48 = .ok (.if_icmp .eq 12, 3) := by decide +kernel
theorem dX10_whyNot_51 : decode cX10_whyNot 51 = .ok (.aload_n 0, 1) := by decide +kernel
theorem dX10_whyNot_52 : decode cX10_whyNot 52 = .ok (.iload_n 2, 1) := by decide +kernel
theorem dX10_whyNot_53 : decode cX10_whyNot 53 = .ok (.invokevirtual 255, 3) := by decide +kernel
theorem dX10_whyNot_56 : decode cX10_whyNot 56 = .ok (.iload_n 1, 1) := by decide +kernel
theorem dX10_whyNot_57 : decode cX10_whyNot 57 = .ok (.if_icmp .ne 7, 3) := by decide +kernel
theorem dX10_whyNot_60 : decode cX10_whyNot 60 = .ok (.iconst 0, 1) := by decide +kernel
theorem dX10_whyNot_61 : decode cX10_whyNot 61 = .ok (.goto 5, 3) := by decide +kernel
theorem dX10_whyNot_64 : decode cX10_whyNot 64 = .ok (.bipush (-5), 2) := by decide +kernel
theorem dX10_whyNot_66 : decode cX10_whyNot 66 = .ok (.ireturn, 1) := by decide +kernel
theorem dX10_moved_0 : decode cX10_moved 0 = .ok (.aload_n 0, 1) := by decide +kernel
theorem dX10_moved_1 : decode cX10_moved 1 = .ok (.iload_n 1, 1) := by decide +kernel
theorem dX10_moved_2 : decode cX10_moved 2 = .ok (.iload_n 2, 1) := by decide +kernel
theorem dX10_moved_3 : decode cX10_moved 3 = .ok (.invokevirtual 327, 3) := by decide +kernel
theorem dX10_moved_6 : decode cX10_moved 6 = .ok (.istore_n 3, 1) := by decide +kernel
theorem dX10_moved_7 : decode cX10_moved 7 = .ok (.iload_n 3, 1) := by decide +kernel
theorem dX10_moved_8 : decode cX10_moved 8 = .ok (.ifCond .ge 5, 3) := by decide +kernel
theorem dX10_moved_11 : decode cX10_moved 11 = .ok (.iload_n 3, 1) := by decide +kernel
theorem dX10_moved_12 : decode cX10_moved 12 = .ok (.ireturn, 1) := by decide +kernel
theorem dX10_moved_13 : decode cX10_moved 13 = .ok (.aload_n 0, 1) := by decide +kernel
theorem dX10_moved_14 : decode cX10_moved 14 = .ok (.invokevirtual 313, 3) := by decide +kernel
theorem dX10_moved_17 : decode cX10_moved 17 = .ok (.istore 4, 2) := by decide +kernel
theorem dX10_moved_19 : decode cX10_moved 19 = .ok (.aload_n 0, 1) := by decide +kernel
theorem dX10_moved_20 : decode cX10_moved 20 = .ok (.iload_n 1, 1) := by decide +kernel
theorem dX10_moved_21 : decode cX10_moved 21 = .ok (.iload_n 2, 1) := by decide +kernel
theorem dX10_moved_22 : decode cX10_moved 22 = .ok (.invokevirtual 330, 3) := by decide +kernel
theorem dX10_moved_25 : decode cX10_moved 25 = .ok (.ireturn, 1) := by decide +kernel
theorem dX10_whyNotBoth_0 : decode cX10_whyNotBoth 0 = .ok (.aload_n 0, 1) := by decide +kernel
theorem dX10_whyNotBoth_1 : decode cX10_whyNotBoth 1 = .ok (.invokevirtual 307, 3) := by decide +kernel
theorem dX10_whyNotBoth_4 : decode cX10_whyNotBoth 4 = .ok (.ifCond .eq 24, 3) := by decide +kernel
theorem dX10_whyNotBoth_7 : decode cX10_whyNotBoth 7 = .ok (.aload_n 0, 1) := by decide +kernel
theorem dX10_whyNotBoth_8 : decode cX10_whyNotBoth 8 = .ok (.iload_n 1, 1) := by decide +kernel
theorem dX10_whyNotBoth_9 : decode cX10_whyNotBoth 9 = .ok (.invokevirtual 252, 3) := by decide +kernel
theorem dX10_whyNotBoth_12 : decode cX10_whyNotBoth 12 = .ok (.ifCond .eq 16, 3) := by decide +kernel
theorem dX10_whyNotBoth_15 : decode cX10_whyNotBoth 15 = .ok (.aload_n 0, 1) := by decide +kernel
theorem dX10_whyNotBoth_16 : decode cX10_whyNotBoth 16 = .ok (.iload_n 2, 1) := by decide +kernel
theorem dX10_whyNotBoth_17 : decode cX10_whyNotBoth 17 = .ok (.invokevirtual 252, 3) := by decide +kernel
theorem dX10_whyNotBoth_20 : decode cX10_whyNotBoth 20 = .ok (.ifCond .eq 8, 3) := by decide +kernel
theorem dX10_whyNotBoth_23 : decode cX10_whyNotBoth 23 = .ok (.iload_n 1, 1) := by decide +kernel
theorem dX10_whyNotBoth_24 : decode cX10_whyNotBoth 24 = .ok (.iload_n 2, 1) := by decide +kernel
theorem dX10_whyNotBoth_25 : decode cX10_whyNotBoth 25 = .ok (.if_icmp .ne 6, 3) := by decide +kernel
theorem dX10_whyNotBoth_28 : decode cX10_whyNotBoth 28 = .ok (.bipush (-2), 2) := by decide +kernel
theorem dX10_whyNotBoth_30 : decode cX10_whyNotBoth 30 = .ok (.ireturn, 1) := by decide +kernel
theorem dX10_whyNotBoth_31 : decode cX10_whyNotBoth 31 = .ok (.aload_n 0, 1) := by decide +kernel
theorem dX10_whyNotBoth_32 : decode cX10_whyNotBoth 32 = .ok (.iload_n 1, 1) := by decide +kernel
theorem dX10_whyNotBoth_33 : decode cX10_whyNotBoth 33 = .ok (.invokevirtual 324, 3) := by decide +kernel
theorem dX10_whyNotBoth_36 : decode cX10_whyNotBoth 36 = .ok (.ifCond .eq 15, 3) := by decide +kernel
theorem dX10_whyNotBoth_39 : decode cX10_whyNotBoth 39 = .ok (.aload_n 0, 1) := by decide +kernel
theorem dX10_whyNotBoth_40 : decode cX10_whyNotBoth 40 = .ok (.iload_n 2, 1) := by decide +kernel
theorem dX10_whyNotBoth_41 : decode cX10_whyNotBoth 41 = .ok (.invokevirtual 324, 3) := by decide +kernel
theorem dX10_whyNotBoth_44 : decode cX10_whyNotBoth 44 = .ok (.ifCond .eq 7, 3) := by decide +kernel
theorem dX10_whyNotBoth_47 : decode cX10_whyNotBoth 47 = .ok (.iconst 0, 1) := by decide +kernel
theorem dX10_whyNotBoth_48 : decode cX10_whyNotBoth 48 = .ok (.goto 5, 3) := by decide +kernel
theorem dX10_whyNotBoth_51 : decode cX10_whyNotBoth 51 = .ok (.bipush (-5), 2) := by decide +kernel
theorem dX10_whyNotBoth_53 : decode cX10_whyNotBoth 53 = .ok (.ireturn, 1) := by decide +kernel
theorem dX10_swapped_0 : decode cX10_swapped 0 = .ok (.aload_n 0, 1) := by decide +kernel
theorem dX10_swapped_1 : decode cX10_swapped 1 = .ok (.iload_n 1, 1) := by decide +kernel
theorem dX10_swapped_2 : decode cX10_swapped 2 = .ok (.iload_n 2, 1) := by decide +kernel
theorem dX10_swapped_3 : decode cX10_swapped 3 = .ok (.invokevirtual 333, 3) := by decide +kernel
theorem dX10_swapped_6 : decode cX10_swapped 6 = .ok (.istore_n 3, 1) := by decide +kernel
theorem dX10_swapped_7 : decode cX10_swapped 7 = .ok (.iload_n 3, 1) := by decide +kernel
theorem dX10_swapped_8 : decode cX10_swapped 8 = .ok (.ifCond .ge 5, 3) := by decide +kernel
theorem dX10_swapped_11 : decode cX10_swapped 11 = .ok (.iload_n 3, 1) := by decide +kernel
theorem dX10_swapped_12 : decode cX10_swapped 12 = .ok (.ireturn, 1) := by decide +kernel
theorem dX10_swapped_13 : decode cX10_swapped 13 = .ok (.aload_n 0, 1) := by decide +kernel
theorem dX10_swapped_14 : decode cX10_swapped 14 = .ok (.invokevirtual 313, 3) := by decide +kernel
theorem dX10_swapped_17 : decode cX10_swapped 17 = .ok (.istore 4, 2) := by decide +kernel
theorem dX10_swapped_19 : decode cX10_swapped 19 = .ok (.aload_n 0, 1) := by decide +kernel
theorem dX10_swapped_20 : decode cX10_swapped 20 = .ok (.iload_n 1, 1) := by decide +kernel
theorem dX10_swapped_21 : decode cX10_swapped 21 = .ok (.iload_n 2, 1) := by decide +kernel
theorem dX10_swapped_22 : decode cX10_swapped 22 = .ok (.invokevirtual 336, 3) := by decide +kernel
theorem dX10_swapped_25 : decode cX10_swapped 25 = .ok (.ireturn, 1) := by decide +kernel
theorem dX10_best_0 : decode cX10_best 0 = .ok (.aload_n 0, 1) := by decide +kernel
theorem dX10_best_1 : decode cX10_best 1 = .ok (.invokevirtual 307, 3) := by decide +kernel
theorem dX10_best_4 : decode cX10_best 4 = .ok (.ifCond .ne 6, 3) := by decide +kernel
theorem dX10_best_7 : decode cX10_best 7 = .ok (.bipush (-2), 2) := by decide +kernel
theorem dX10_best_9 : decode cX10_best 9 = .ok (.ireturn, 1) := by decide +kernel
theorem dX10_best_10 : decode cX10_best 10 = .ok (.aload_n 0, 1) := by decide +kernel
theorem dX10_best_11 : decode cX10_best 11 = .ok (.invokevirtual 313, 3) := by decide +kernel
theorem dX10_best_14 : decode cX10_best 14 = .ok (.istore_n 1, 1) := by decide +kernel
theorem dX10_best_15 : decode cX10_best 15 = .ok (.iconst (-1), 1) := by decide +kernel
theorem dX10_best_16 : decode cX10_best 16 = .ok (.istore_n 2, 1) := by decide +kernel
theorem dX10_best_17 : decode cX10_best 17 = .ok (.iconst 0, 1) := by decide +kernel
theorem dX10_best_18 : decode cX10_best 18 = .ok (.istore_n 3, 1) := by decide +kernel
theorem dX10_best_19 : decode cX10_best 19 = .ok (.iload_n 3, 1) := by decide +kernel
theorem dX10_best_20 : decode cX10_best 20 = .ok (.aload_n 0, 1) := by decide +kernel
theorem dX10_best_21 : decode cX10_best 21 = .ok (.getfield 7, 3) := by decide +kernel
theorem dX10_best_24 : decode cX10_best 24 = .ok (.iconst 5, 1) := by decide +kernel
theorem dX10_best_25 : decode cX10_best 25 = .ok (.iaload, 1) := by decide +kernel
theorem dX10_best_26 : decode cX10_best 26 = .ok (.if_icmp .ge 72, 3) := by decide +kernel
theorem dX10_best_29 : decode cX10_best 29 = .ok (.iconst 0, 1) := by decide +kernel
theorem dX10_best_30 : decode cX10_best 30 = .ok (.istore 4, 2) := by decide +kernel
theorem dX10_best_32 : decode cX10_best 32 = .ok (.iload 4, 2) := by decide +kernel
theorem dX10_best_34 : decode cX10_best 34 = .ok (.aload_n 0, 1) := by decide +kernel
theorem dX10_best_35 : decode cX10_best 35 = .ok (.invokevirtual 218, 3) := by decide +kernel
theorem dX10_best_38 : decode cX10_best 38 = .ok (.if_icmp .ge 54, 3) := by decide +kernel
theorem dX10_best_41 : decode cX10_best 41 = .ok (.aload_n 0, 1) := by decide +kernel
theorem dX10_best_42 : decode cX10_best 42 = .ok (.iload_n 3, 1) := by decide +kernel
theorem dX10_best_43 : decode cX10_best 43 = .ok (.invokevirtual 324, 3) := by decide +kernel
theorem dX10_best_46 : decode cX10_best 46 = .ok (.ifCond .eq 46, 3) := by decide +kernel
theorem dX10_best_49 : decode cX10_best 49 = .ok (.aload_n 0, 1) := by decide +kernel
theorem dX10_best_50 : decode cX10_best 50 = .ok (.iload 4, 2) := by decide +kernel
theorem dX10_best_52 : decode cX10_best 52 = .ok (.invokevirtual 255, 3) := by decide +kernel
theorem dX10_best_55 : decode cX10_best 55 = .ok (.iconst (-1), 1) := by decide +kernel
theorem dX10_best_56 : decode cX10_best 56 = .ok (.if_icmp .ne 30, 3) := by decide +kernel
theorem dX10_best_59 : decode cX10_best 59 = .ok (.aload_n 0, 1) := by decide +kernel
theorem dX10_best_60 : decode cX10_best 60 = .ok (.iload_n 3, 1) := by decide +kernel
theorem dX10_best_61 : decode cX10_best 61 = .ok (.iload 4, 2) := by decide +kernel
theorem dX10_best_63 : decode cX10_best 63 = .ok (.invokevirtual 330, 3) := by decide +kernel
theorem dX10_best_66 : decode cX10_best 66 = .ok (.iload_n 1, 1) := by decide +kernel
theorem dX10_best_67 : decode cX10_best 67 = .ok (.if_icmp .ge 19, 3) := by decide +kernel
theorem dX10_best_70 : decode cX10_best 70 = .ok (.aload_n 0, 1) := by decide +kernel
theorem dX10_best_71 : decode cX10_best 71 = .ok (.iload_n 3, 1) := by decide +kernel
theorem dX10_best_72 : decode cX10_best 72 = .ok (.iload 4, 2) := by decide +kernel
theorem dX10_best_74 : decode cX10_best 74 = .ok (.invokevirtual 330, 3) := by decide +kernel
theorem dX10_best_77 : decode cX10_best 77 = .ok (.istore_n 1, 1) := by decide +kernel
theorem dX10_best_78 : decode cX10_best 78 = .ok (.bipush 100, 2) := by decide +kernel
theorem dX10_best_80 : decode cX10_best 80 = .ok (.iload_n 3, 1) := by decide +kernel
theorem dX10_best_81 : decode cX10_best 81 = .ok (.imul, 1) := by decide +kernel
theorem dX10_best_82 : decode cX10_best 82 = .ok (.iload 4, 2) := by decide +kernel
theorem dX10_best_84 : decode cX10_best 84 = .ok (.iadd, 1) := by decide +kernel
theorem dX10_best_85 : decode cX10_best 85 = .ok (.istore_n 2, 1) := by decide +kernel
theorem dX10_best_86 : decode cX10_best 86 = .ok (.iinc 4 1, 3) := by decide +kernel
theorem dX10_best_89 : decode cX10_best 89 = .ok (.goto (-57), 3) := by decide +kernel
theorem dX10_best_92 : decode cX10_best 92 = .ok (.iinc 3 1, 3) := by decide +kernel
theorem dX10_best_95 : decode cX10_best 95 = .ok (.goto (-76), 3) := by decide +kernel
theorem dX10_best_98 : decode cX10_best 98 = .ok (.iload_n 2, 1) := by decide +kernel
theorem dX10_best_99 : decode cX10_best 99 = .ok (.ireturn, 1) := by decide +kernel
theorem dX10_pair_0 : decode cX10_pair 0 = .ok (.aload_n 0, 1) := by decide +kernel
theorem dX10_pair_1 : decode cX10_pair 1 = .ok (.invokevirtual 307, 3) := by decide +kernel
theorem dX10_pair_4 : decode cX10_pair 4 = .ok (.ifCond .ne 6, 3) := by decide +kernel
theorem dX10_pair_7 : decode cX10_pair 7 = .ok (.bipush (-2), 2) := by decide +kernel
theorem dX10_pair_9 : decode cX10_pair 9 = .ok (.ireturn, 1) := by decide +kernel
theorem dX10_pair_10 : decode cX10_pair 10 = .ok (.aload_n 0, 1) := by decide +kernel
theorem dX10_pair_11 : decode cX10_pair 11 = .ok (.invokevirtual 313, 3) := by decide +kernel
theorem dX10_pair_14 : decode cX10_pair 14 = .ok (.istore_n 1, 1) := by decide +kernel
theorem dX10_pair_15 : decode cX10_pair 15 = .ok (.iconst (-1), 1) := by decide +kernel
theorem dX10_pair_16 : decode cX10_pair 16 = .ok (.istore_n 2, 1) := by decide +kernel
theorem dX10_pair_17 : decode cX10_pair 17 = .ok (.iconst 0, 1) := by decide +kernel
theorem dX10_pair_18 : decode cX10_pair 18 = .ok (.istore_n 3, 1) := by decide +kernel
theorem dX10_pair_19 : decode cX10_pair 19 = .ok (.iload_n 3, 1) := by decide +kernel
theorem dX10_pair_20 : decode cX10_pair 20 = .ok (.aload_n 0, 1) := by decide +kernel
theorem dX10_pair_21 : decode cX10_pair 21 = .ok (.getfield 7, 3) := by decide +kernel
theorem dX10_pair_24 : decode cX10_pair 24 = .ok (.iconst 5, 1) := by decide +kernel
theorem dX10_pair_25 : decode cX10_pair 25 = .ok (.iaload, 1) := by decide +kernel
theorem dX10_pair_26 : decode cX10_pair 26 = .ok (.if_icmp .ge 75, 3) := by decide +kernel
theorem dX10_pair_29 : decode cX10_pair 29 = .ok (.iload_n 3, 1) := by decide +kernel
theorem dX10_pair_30 : decode cX10_pair 30 = .ok (.iconst 1, 1) := by decide +kernel
theorem dX10_pair_31 : decode cX10_pair 31 = .ok (.iadd, 1) := by decide +kernel
theorem dX10_pair_32 : decode cX10_pair 32 = .ok (.istore 4, 2) := by decide +kernel
theorem dX10_pair_34 : decode cX10_pair 34 = .ok (.iload 4, 2) := by decide +kernel
theorem dX10_pair_36 : decode cX10_pair 36 = .ok (.aload_n 0, 1) := by decide +kernel
theorem dX10_pair_37 : decode cX10_pair 37 = .ok (.getfield 7, 3) := by decide +kernel
theorem dX10_pair_40 : decode cX10_pair 40 = .ok (.iconst 5, 1) := by decide +kernel
theorem dX10_pair_41 : decode cX10_pair 41 = .ok (.iaload, 1) := by decide +kernel
theorem dX10_pair_42 : decode cX10_pair 42 = .ok (.if_icmp .ge 53, 3) := by decide +kernel
theorem dX10_pair_45 : decode cX10_pair 45 = .ok (.aload_n 0, 1) := by decide +kernel
theorem dX10_pair_46 : decode cX10_pair 46 = .ok (.iload_n 3, 1) := by decide +kernel
theorem dX10_pair_47 : decode cX10_pair 47 = .ok (.invokevirtual 324, 3) := by decide +kernel
theorem dX10_pair_50 : decode cX10_pair 50 = .ok (.ifCond .eq 39, 3) := by decide +kernel
theorem dX10_pair_53 : decode cX10_pair 53 = .ok (.aload_n 0, 1) := by decide +kernel
theorem dX10_pair_54 : decode cX10_pair 54 = .ok (.iload 4, 2) := by decide +kernel
theorem dX10_pair_56 : decode cX10_pair 56 = .ok (.invokevirtual 324, 3) := by decide +kernel
theorem dX10_pair_59 : decode cX10_pair 59 = .ok (.ifCond .eq 30, 3) := by decide +kernel
theorem dX10_pair_62 : decode cX10_pair 62 = .ok (.aload_n 0, 1) := by decide +kernel
theorem dX10_pair_63 : decode cX10_pair 63 = .ok (.iload_n 3, 1) := by decide +kernel
theorem dX10_pair_64 : decode cX10_pair 64 = .ok (.iload 4, 2) := by decide +kernel
theorem dX10_pair_66 : decode cX10_pair 66 = .ok (.invokevirtual 336, 3) := by decide +kernel
theorem dX10_pair_69 : decode cX10_pair 69 = .ok (.iload_n 1, 1) := by decide +kernel
theorem dX10_pair_70 : decode cX10_pair 70 = .ok (.if_icmp .ge 19, 3) := by decide +kernel
theorem dX10_pair_73 : decode cX10_pair 73 = .ok (.aload_n 0, 1) := by decide +kernel
theorem dX10_pair_74 : decode cX10_pair 74 = .ok (.iload_n 3, 1) := by decide +kernel
theorem dX10_pair_75 : decode cX10_pair 75 = .ok (.iload 4, 2) := by decide +kernel
theorem dX10_pair_77 : decode cX10_pair 77 = .ok (.invokevirtual 336, 3) := by decide +kernel
theorem dX10_pair_80 : decode cX10_pair 80 = .ok (.istore_n 1, 1) := by decide +kernel
theorem dX10_pair_81 : decode cX10_pair 81 = .ok (.bipush 100, 2) := by decide +kernel
theorem dX10_pair_83 : decode cX10_pair 83 = .ok (.iload_n 3, 1) := by decide +kernel
theorem dX10_pair_84 : decode cX10_pair 84 = .ok (.imul, 1) := by decide +kernel
theorem dX10_pair_85 : decode cX10_pair 85 = .ok (.iload 4, 2) := by decide +kernel
theorem dX10_pair_87 : decode cX10_pair 87 = .ok (.iadd, 1) := by decide +kernel
theorem dX10_pair_88 : decode cX10_pair 88 = .ok (.istore_n 2, 1) := by decide +kernel
theorem dX10_pair_89 : decode cX10_pair 89 = .ok (.iinc 4 1, 3) := by decide +kernel
theorem dX10_pair_92 : decode cX10_pair 92 = .ok (.goto (-58), 3) := by decide +kernel
theorem dX10_pair_95 : decode cX10_pair 95 = .ok (.iinc 3 1, 3) := by decide +kernel
theorem dX10_pair_98 : decode cX10_pair 98 = .ok (.goto (-79), 3) := by decide +kernel
theorem dX10_pair_101 : decode cX10_pair 101 = .ok (.iload_n 2, 1) := by decide +kernel
theorem dX10_pair_102 : decode cX10_pair 102 = .ok (.ireturn, 1) := by decide +kernel
theorem dX10_idle_0 : decode cX10_idle 0 = .ok (.aload_n 0, 1) := by decide +kernel
theorem dX10_idle_1 : decode cX10_idle 1 = .ok (.invokevirtual 307, 3) := by decide +kernel
theorem dX10_idle_4 : decode cX10_idle 4 = .ok (.ifCond .ne 6, 3) := by decide +kernel
theorem dX10_idle_7 : decode cX10_idle 7 = .ok (.bipush (-2), 2) := by decide +kernel
theorem dX10_idle_9 : decode cX10_idle 9 = .ok (.ireturn, 1) := by decide +kernel
theorem dX10_idle_10 : decode cX10_idle 10 = .ok (.aload_n 0, 1) := by decide +kernel
theorem dX10_idle_11 : decode cX10_idle 11 = .ok (.invokevirtual 313, 3) := by decide +kernel
theorem dX10_idle_14 : decode cX10_idle 14 = .ok (.istore_n 1, 1) := by decide +kernel
theorem dX10_idle_15 : decode cX10_idle 15 = .ok (.iconst 0, 1) := by decide +kernel
theorem dX10_idle_16 : decode cX10_idle 16 = .ok (.istore_n 2, 1) := by decide +kernel
theorem dX10_idle_17 : decode cX10_idle 17 = .ok (.iconst 0, 1) := by decide +kernel
theorem dX10_idle_18 : decode cX10_idle 18 = .ok (.istore_n 3, 1) := by decide +kernel
theorem dX10_idle_19 : decode cX10_idle 19 = .ok (.iload_n 3, 1) := by decide +kernel
theorem dX10_idle_20 : decode cX10_idle 20 = .ok (.aload_n 0, 1) := by decide +kernel
theorem dX10_idle_21 : decode cX10_idle 21 = .ok (.getfield 7, 3) := by decide +kernel
theorem dX10_idle_24 : decode cX10_idle 24 = .ok (.iconst 5, 1) := by decide +kernel
theorem dX10_idle_25 : decode cX10_idle 25 = .ok (.iaload, 1) := by decide +kernel
theorem dX10_idle_26 : decode cX10_idle 26 = .ok (.if_icmp .ge 64, 3) := by decide +kernel
theorem dX10_idle_29 : decode cX10_idle 29 = .ok (.iconst 0, 1) := by decide +kernel
theorem dX10_idle_30 : decode cX10_idle 30 = .ok (.istore 4, 2) := by decide +kernel
theorem dX10_idle_32 : decode cX10_idle 32 = .ok (.iload 4, 2) := by decide +kernel
theorem dX10_idle_34 : decode cX10_idle 34 = .ok (.aload_n 0, 1) := by decide +kernel
theorem dX10_idle_35 : decode cX10_idle 35 = .ok (.invokevirtual 218, 3) := by decide +kernel
theorem dX10_idle_38 : decode cX10_idle 38 = .ok (.if_icmp .ge 46, 3) := by decide +kernel
theorem dX10_idle_41 : decode cX10_idle 41 = .ok (.aload_n 0, 1) := by decide +kernel
theorem dX10_idle_42 : decode cX10_idle 42 = .ok (.iload_n 3, 1) := by decide +kernel
theorem dX10_idle_43 : decode cX10_idle 43 = .ok (.invokevirtual 324, 3) := by decide +kernel
theorem dX10_idle_46 : decode cX10_idle 46 = .ok (.ifCond .eq 38, 3) := by decide +kernel
theorem dX10_idle_49 : decode cX10_idle 49 = .ok (.iload_n 2, 1) := by decide +kernel
theorem dX10_idle_50 : decode cX10_idle 50 = .ok (.aload_n 0, 1) := by decide +kernel
theorem dX10_idle_51 : decode cX10_idle 51 = .ok (.iload 4, 2) := by decide +kernel
theorem dX10_idle_53 : decode cX10_idle 53 = .ok (.invokevirtual 255, 3) := by decide +kernel
theorem dX10_idle_56 : decode cX10_idle 56 = .ok (.iconst (-1), 1) := by decide +kernel
theorem dX10_idle_57 : decode cX10_idle 57 = .ok (.if_icmp .ne 18, 3) := by decide +kernel
theorem dX10_idle_60 : decode cX10_idle 60 = .ok (.aload_n 0, 1) := by decide +kernel
theorem dX10_idle_61 : decode cX10_idle 61 = .ok (.iload_n 3, 1) := by decide +kernel
theorem dX10_idle_62 : decode cX10_idle 62 = .ok (.iload 4, 2) := by decide +kernel
theorem dX10_idle_64 : decode cX10_idle 64 = .ok (.invokevirtual 330, 3) := by decide +kernel
theorem dX10_idle_67 : decode cX10_idle 67 = .ok (.iload_n 1, 1) := by decide +kernel
theorem dX10_idle_68 : decode cX10_idle 68 = .ok (.if_icmp .ne 7, 3) := by decide +kernel
theorem dX10_idle_71 : decode cX10_idle 71 = .ok (.iconst 1, 1) := by decide +kernel
theorem dX10_idle_72 : decode cX10_idle 72 = .ok (.goto 4, 3) := by decide +kernel
theorem dX10_idle_75 : decode cX10_idle 75 = .ok (.iconst 0, 1) := by decide +kernel
theorem dX10_idle_76 : decode cX10_idle 76 = .ok (.iadd, 1) := by decide +kernel
theorem dX10_idle_77 : decode cX10_idle 77 = .ok (.istore_n 2, 1) := by decide +kernel
theorem dX10_idle_78 : decode cX10_idle 78 = .ok (.iinc 4 1, 3) := by decide +kernel
theorem dX10_idle_81 : decode cX10_idle 81 = .ok (.goto (-49), 3) := by decide +kernel
theorem dX10_idle_84 : decode cX10_idle 84 = .ok (.iinc 3 1, 3) := by decide +kernel
theorem dX10_idle_87 : decode cX10_idle 87 = .ok (.goto (-68), 3) := by decide +kernel
theorem dX10_idle_90 : decode cX10_idle 90 = .ok (.iload_n 2, 1) := by decide +kernel
theorem dX10_idle_91 : decode cX10_idle 91 = .ok (.ireturn, 1) := by decide +kernel
theorem dX10_isTaken_0 : decode cX10_isTaken 0 = .ok (.iconst 0, 1) := by decide +kernel
theorem dX10_isTaken_1 : decode cX10_isTaken 1 = .ok (.istore_n 2, 1) := by decide +kernel
theorem dX10_isTaken_2 : decode cX10_isTaken 2 = .ok (.iload_n 2, 1) := by decide +kernel
theorem dX10_isTaken_3 : decode cX10_isTaken 3 = .ok (.aload_n 0, 1) := by decide +kernel
theorem dX10_isTaken_4 : decode cX10_isTaken 4 = .ok (.getfield 7, 3) := by decide +kernel
theorem dX10_isTaken_7 : decode cX10_isTaken 7 = .ok (.iconst 5, 1) := by decide +kernel
theorem dX10_isTaken_8 : decode cX10_isTaken 8 = .ok (.iaload, 1) := by decide +kernel
theorem dX10_isTaken_9 : decode cX10_isTaken 9 = .ok (.if_icmp .ge 21, 3) := by decide +kernel
theorem dX10_isTaken_12 : decode cX10_isTaken 12 = .ok (.aload_n 0, 1) := by decide +kernel
theorem dX10_isTaken_13 : decode cX10_isTaken 13 = .ok (.getfield 75, 3) := by decide +kernel
theorem dX10_isTaken_16 : decode cX10_isTaken 16 = .ok (.iload_n 2, 1) := by decide +kernel
theorem dX10_isTaken_17 : decode cX10_isTaken 17 = .ok (.iaload, 1) := by decide +kernel
theorem dX10_isTaken_18 : decode cX10_isTaken 18 = .ok (.iload_n 1, 1) := by decide +kernel
theorem dX10_isTaken_19 : decode cX10_isTaken 19 = .ok (.if_icmp .ne 5, 3) := by decide +kernel
theorem dX10_isTaken_22 : decode cX10_isTaken 22 = .ok (.iconst 1, 1) := by decide +kernel
theorem dX10_isTaken_23 : decode cX10_isTaken 23 = .ok (.ireturn, 1) := by decide +kernel
theorem dX10_isTaken_24 : decode cX10_isTaken 24 = .ok (.iinc 2 1, 3) := by decide +kernel
theorem dX10_isTaken_27 : decode cX10_isTaken 27 = .ok (.goto (-25), 3) := by decide +kernel
theorem dX10_isTaken_30 : decode cX10_isTaken 30 = .ok (.iconst 0, 1) := by decide +kernel
theorem dX10_isTaken_31 : decode cX10_isTaken 31 = .ok (.ireturn, 1) := by decide +kernel
theorem dX10_laysFixed_0 : decode cX10_laysFixed 0 = .ok (.iconst 0, 1) := by decide +kernel
theorem dX10_laysFixed_1 : decode cX10_laysFixed 1 = .ok (.istore_n 1, 1) := by decide +kernel
theorem dX10_laysFixed_2 : decode cX10_laysFixed 2 = .ok (.iload_n 1, 1) := by decide +kernel
theorem dX10_laysFixed_3 : decode cX10_laysFixed 3 = .ok (.aload_n 0, 1) := by decide +kernel
theorem dX10_laysFixed_4 : decode cX10_laysFixed 4 = .ok (.getfield 7, 3) := by decide +kernel
theorem dX10_laysFixed_7 : decode cX10_laysFixed 7 = .ok (.iconst 5, 1) := by decide +kernel
theorem dX10_laysFixed_8 : decode cX10_laysFixed 8 = .ok (.iaload, 1) := by decide +kernel
theorem dX10_laysFixed_9 : decode cX10_laysFixed 9 = .ok (.if_icmp .ge 25, 3) := by decide +kernel
theorem dX10_laysFixed_12 : decode cX10_laysFixed 12 = .ok (.aload_n 0, 1) := by decide +kernel
theorem dX10_laysFixed_13 : decode cX10_laysFixed 13 = .ok (.getfield 75, 3) := by decide +kernel
theorem dX10_laysFixed_16 : decode cX10_laysFixed 16 = .ok (.iload_n 1, 1) := by decide +kernel
theorem dX10_laysFixed_17 : decode cX10_laysFixed 17 = .ok (.aload_n 0, 1) := by decide +kernel
theorem dX10_laysFixed_18 : decode cX10_laysFixed 18 = .ok (.getfield 7, 3) := by decide +kernel
theorem dX10_laysFixed_21 : decode cX10_laysFixed 21 = .ok (.sipush 129, 3) := by decide +kernel
theorem dX10_laysFixed_24 : decode cX10_laysFixed 24 = .ok (.iload_n 1, 1) := by decide +kernel
theorem dX10_laysFixed_25 : decode cX10_laysFixed 25 = .ok (.iadd, 1) := by decide +kernel
theorem dX10_laysFixed_26 : decode cX10_laysFixed 26 = .ok (.iaload, 1) := by decide +kernel
theorem dX10_laysFixed_27 : decode cX10_laysFixed 27 = .ok (.iastore, 1) := by decide +kernel
theorem dX10_laysFixed_28 : decode cX10_laysFixed 28 = .ok (.iinc 1 1, 3) := by decide +kernel
theorem dX10_laysFixed_31 : decode cX10_laysFixed 31 = .ok (.goto (-29), 3) := by decide +kernel
theorem dX10_laysFixed_34 : decode cX10_laysFixed 34 = .ok (.return_, 1) := by decide +kernel
theorem dX10_laysRest_0 : decode cX10_laysRest 0 = .ok (.iconst 0, 1) := by decide +kernel
theorem dX10_laysRest_1 : decode cX10_laysRest 1 = .ok (.istore_n 1, 1) := by decide +kernel
theorem dX10_laysRest_2 : decode cX10_laysRest 2 = .ok (.iload_n 1, 1) := by decide +kernel
theorem dX10_laysRest_3 : decode cX10_laysRest 3 = .ok (.aload_n 0, 1) := by decide +kernel
theorem dX10_laysRest_4 : decode cX10_laysRest 4 = .ok (.getfield 7, 3) := by decide +kernel
theorem dX10_laysRest_7 : decode cX10_laysRest 7 = .ok (.iconst 5, 1) := by decide +kernel
theorem dX10_laysRest_8 : decode cX10_laysRest 8 = .ok (.iaload, 1) := by decide +kernel
theorem dX10_laysRest_9 : decode cX10_laysRest 9 = .ok (.if_icmp .ge 46, 3) := by decide +kernel
theorem dX10_laysRest_12 : decode cX10_laysRest 12 = .ok (.iconst 0, 1) := by decide +kernel
theorem dX10_laysRest_13 : decode cX10_laysRest 13 = .ok (.istore_n 2, 1) := by decide +kernel
theorem dX10_laysRest_14 : decode cX10_laysRest 14 = .ok (.aload_n 0, 1) := by decide +kernel
theorem dX10_laysRest_15 : decode cX10_laysRest 15 = .ok (.getfield 75, 3) := by decide +kernel
theorem dX10_laysRest_18 : decode cX10_laysRest 18 = .ok (.iload_n 1, 1) := by decide +kernel
theorem dX10_laysRest_19 : decode cX10_laysRest 19 = .ok (.iaload, 1) := by decide +kernel
theorem dX10_laysRest_20 : decode cX10_laysRest 20 = .ok (.iconst (-1), 1) := by decide +kernel
theorem dX10_laysRest_21 : decode cX10_laysRest 21 = .ok (.if_icmp .ne 28, 3) := by decide +kernel
theorem dX10_laysRest_24 : decode cX10_laysRest 24 = .ok (.aload_n 0, 1) := by decide +kernel
theorem dX10_laysRest_25 : decode cX10_laysRest 25 = .ok (.getfield 75, 3) := by decide +kernel
theorem dX10_laysRest_28 : decode cX10_laysRest 28 = .ok (.iload_n 1, 1) := by decide +kernel
theorem dX10_laysRest_29 : decode cX10_laysRest 29 = .ok (.aload_n 0, 1) := by decide +kernel
theorem dX10_laysRest_30 : decode cX10_laysRest 30 = .ok (.iload_n 2, 1) := by decide +kernel
theorem dX10_laysRest_31 : decode cX10_laysRest 31 = .ok (.invokevirtual 339, 3) := by decide +kernel
theorem dX10_laysRest_34 : decode cX10_laysRest 34 = .ok (.ifCond .eq 7, 3) := by decide +kernel
theorem dX10_laysRest_37 : decode cX10_laysRest 37 = .ok (.iconst (-1), 1) := by decide +kernel
theorem dX10_laysRest_38 : decode cX10_laysRest 38 = .ok (.goto 4, 3) := by decide +kernel
theorem dX10_laysRest_41 : decode cX10_laysRest 41 = .ok (.iload_n 2, 1) := by decide +kernel
theorem dX10_laysRest_42 : decode cX10_laysRest 42 = .ok (.iastore, 1) := by decide +kernel
theorem dX10_laysRest_43 : decode cX10_laysRest 43 = .ok (.iinc 2 1, 3) := by decide +kernel
theorem dX10_laysRest_46 : decode cX10_laysRest 46 = .ok (.goto (-32), 3) := by decide +kernel
theorem dX10_laysRest_49 : decode cX10_laysRest 49 = .ok (.iinc 1 1, 3) := by decide +kernel
theorem dX10_laysRest_52 : decode cX10_laysRest 52 = .ok (.goto (-50), 3) := by decide +kernel
theorem dX10_laysRest_55 : decode cX10_laysRest 55 = .ok (.return_, 1) := by decide +kernel
theorem dX10_laysSoon_0 : decode cX10_laysSoon 0 = .ok (.aload_n 0, 1) := by decide +kernel
theorem dX10_laysSoon_1 : decode cX10_laysSoon 1 = .ok (.invokevirtual 298, 3) := by decide +kernel
theorem dX10_laysSoon_4 : decode cX10_laysSoon 4 = .ok (.aload_n 0, 1) := by decide +kernel
theorem dX10_laysSoon_5 : decode cX10_laysSoon 5 = .ok (.invokevirtual 301, 3) := by decide +kernel
theorem dX10_laysSoon_8 : decode cX10_laysSoon 8 = .ok (.iconst 0, 1) := by decide +kernel
theorem dX10_laysSoon_9 : decode cX10_laysSoon 9 = .ok (.istore_n 1, 1) := by decide +kernel
theorem dX10_laysSoon_10 : decode cX10_laysSoon 10 = .ok (.iconst 0, 1) := by decide +kernel
theorem dX10_laysSoon_11 : decode cX10_laysSoon 11 = .ok (.istore_n 2, 1) := by decide +kernel
theorem dX10_laysSoon_12 : decode cX10_laysSoon 12 = .ok (.iload_n 2, 1) := by decide +kernel
theorem dX10_laysSoon_13 : decode cX10_laysSoon 13 = .ok (.aload_n 0, 1) := by decide +kernel
theorem dX10_laysSoon_14 : decode cX10_laysSoon 14 = .ok (.getfield 261, 3) := by decide +kernel
theorem dX10_laysSoon_17 : decode cX10_laysSoon 17 = .ok (.if_icmp .ge 138, 3) := by decide +kernel
theorem dX10_laysSoon_20 : decode cX10_laysSoon 20 = .ok (.iload_n 1, 1) := by decide +kernel
theorem dX10_laysSoon_21 : decode cX10_laysSoon 21 = .ok (.aload_n 0, 1) := by decide +kernel
theorem dX10_laysSoon_22 : decode cX10_laysSoon 22 = .ok (.aload_n 0, 1) := by decide +kernel
theorem dX10_laysSoon_23 : decode cX10_laysSoon 23 = .ok (.getfield 48, 3) := by decide +kernel
theorem dX10_laysSoon_26 : decode cX10_laysSoon 26 = .ok (.iload_n 2, 1) := by decide +kernel
theorem dX10_laysSoon_27 : decode cX10_laysSoon 27 = .ok (.iaload, 1) := by decide +kernel
theorem dX10_laysSoon_28 : decode cX10_laysSoon 28 = .ok (.invokevirtual 292, 3) := by decide +kernel
theorem dX10_laysSoon_31 : decode cX10_laysSoon 31 = .ok (.iadd, 1) := by decide +kernel
theorem dX10_laysSoon_32 : decode cX10_laysSoon 32 = .ok (.istore_n 3, 1) := by decide +kernel
theorem dX10_laysSoon_33 : decode cX10_laysSoon 33 = .ok (.aload_n 0, 1) := by decide +kernel
theorem dX10_laysSoon_34 : decode cX10_laysSoon 34 = .ok (.getfield 45, 3) := by decide +kernel
theorem dX10_laysSoon_37 : decode cX10_laysSoon 37 = .ok (.iload_n 2, 1) := by decide +kernel
theorem dX10_laysSoon_38 : decode cX10_laysSoon 38 = .ok (.iaload, 1) := by decide +kernel
theorem dX10_laysSoon_39 : decode cX10_laysSoon 39 = .ok (.istore 4, 2) := by decide +kernel
theorem dX10_laysSoon_41 : decode cX10_laysSoon 41 = .ok (.aload_n 0, 1) := by decide +kernel
theorem dX10_laysSoon_42 : decode cX10_laysSoon 42 = .ok (.getfield 75, 3) := by decide +kernel
theorem dX10_laysSoon_45 : decode cX10_laysSoon 45 = .ok (.iload 4, 2) := by decide +kernel
theorem dX10_laysSoon_47 : decode cX10_laysSoon 47 = .ok (.iaload, 1) := by decide +kernel
theorem dX10_laysSoon_48 : decode cX10_laysSoon 48 = .ok (.istore 5, 2) := by decide +kernel
theorem dX10_laysSoon_50 : decode cX10_laysSoon 50 = .ok (.iconst 0, 1) := by decide +kernel
theorem dX10_laysSoon_51 : decode cX10_laysSoon 51 = .ok (.istore 6, 2) := by decide +kernel
theorem dX10_laysSoon_53 : decode cX10_laysSoon 53 = .ok (.iload 6, 2) := by decide +kernel
theorem dX10_laysSoon_55 : decode cX10_laysSoon 55 = .ok (.aload_n 0, 1) := by decide +kernel
theorem dX10_laysSoon_56 : decode cX10_laysSoon 56 = .ok (.invokevirtual 218, 3) := by decide +kernel
theorem dX10_laysSoon_59 : decode cX10_laysSoon 59 = .ok (.if_icmp .ge 73, 3) := by decide +kernel
theorem dX10_laysSoon_62 : decode cX10_laysSoon 62 = .ok (.aload_n 0, 1) := by decide +kernel
theorem dX10_laysSoon_63 : decode cX10_laysSoon 63 = .ok (.getfield 75, 3) := by decide +kernel
theorem dX10_laysSoon_66 : decode cX10_laysSoon 66 = .ok (.iload 4, 2) := by decide +kernel
theorem dX10_laysSoon_68 : decode cX10_laysSoon 68 = .ok (.iaload, 1) := by decide +kernel
theorem dX10_laysSoon_69 : decode cX10_laysSoon 69 = .ok (.iconst (-1), 1) := by decide +kernel
theorem dX10_laysSoon_70 : decode cX10_laysSoon 70 = .ok (.if_icmp .ne 62, 3) := by decide +kernel
theorem dX10_laysSoon_73 : decode cX10_laysSoon 73 = .ok (.aload_n 0, 1) := by decide +kernel
theorem dX10_laysSoon_74 : decode cX10_laysSoon 74 = .ok (.iload 6, 2) := by decide +kernel
theorem dX10_laysSoon_76 : decode cX10_laysSoon 76 = .ok (.invokevirtual 339, 3) := by decide +kernel
theorem dX10_laysSoon_79 : decode cX10_laysSoon 79 = .ok (.ifCond .ne 30, 3) := by decide +kernel
theorem dX10_laysSoon_82 : decode cX10_laysSoon 82 = .ok (.iload 5, 2) := by decide +kernel
theorem dX10_laysSoon_84 : decode cX10_laysSoon 84 = .ok (.iconst (-1), 1) := by decide +kernel
theorem dX10_laysSoon_85 : decode cX10_laysSoon 85 = .ok (.if_icmp .eq 20, 3) := by decide +kernel
theorem dX10_laysSoon_88 : decode cX10_laysSoon 88 = .ok (.aload_n 0, 1) := by decide +kernel
theorem dX10_laysSoon_89 : decode cX10_laysSoon 89 = .ok (.iload 6, 2) := by decide +kernel
theorem dX10_laysSoon_91 : decode cX10_laysSoon 91 = .ok (.iload_n 3, 1) := by decide +kernel
theorem dX10_laysSoon_92 : decode cX10_laysSoon 92 = .ok (.invokevirtual 295, 3) := by decide +kernel
theorem dX10_laysSoon_95 : decode cX10_laysSoon 95 = .ok (.aload_n 0, 1) := by decide +kernel
theorem dX10_laysSoon_96 : decode cX10_laysSoon 96 = .ok (.iload 5, 2) := by decide +kernel
theorem dX10_laysSoon_98 : decode cX10_laysSoon 98 = .ok (.iload_n 3, 1) := by decide +kernel
theorem dX10_laysSoon_99 : decode cX10_laysSoon 99 = .ok (.invokevirtual 295, 3) := by decide +kernel
theorem dX10_laysSoon_102 : decode cX10_laysSoon 102 = .ok (.if_icmp .ge 7, 3) := by decide +kernel
theorem dX10_laysSoon_105 : decode cX10_laysSoon 105 = .ok (.iconst 1, 1) := by decide +kernel
theorem dX10_laysSoon_106 : decode cX10_laysSoon 106 = .ok (.goto 4, 3) := by decide +kernel
theorem dX10_laysSoon_109 : decode cX10_laysSoon 109 = .ok (.iconst 0, 1) := by decide +kernel
theorem dX10_laysSoon_110 : decode cX10_laysSoon 110 = .ok (.istore 7, 2) := by decide +kernel
theorem dX10_laysSoon_112 : decode cX10_laysSoon 112 = .ok (.iload 7, 2) := by decide +kernel
theorem dX10_laysSoon_114 : decode cX10_laysSoon 114 = .ok (.ifCond .eq 8, 3) := by decide +kernel
theorem dX10_laysSoon_117 : decode cX10_laysSoon 117 = .ok (.iload 6, 2) := by decide +kernel
theorem dX10_laysSoon_119 : decode cX10_laysSoon 119 = .ok (.goto 5, 3) := by decide +kernel
theorem dX10_laysSoon_122 : decode cX10_laysSoon 122 = .ok (.iload 5, 2) := by decide +kernel
theorem dX10_laysSoon_124 : decode cX10_laysSoon 124 = .ok (.istore 5, 2) := by decide +kernel
theorem dX10_laysSoon_126 : decode cX10_laysSoon 126 = .ok (.iinc 6 1, 3) := by decide +kernel
theorem dX10_laysSoon_129 : decode cX10_laysSoon 129 = .ok (.goto (-76), 3) := by decide +kernel
theorem dX10_laysSoon_132 : decode cX10_laysSoon 132 = .ok (.aload_n 0, 1) := by decide +kernel
theorem dX10_laysSoon_133 : decode cX10_laysSoon 133 = .ok (.getfield 75, 3) := by decide +kernel
theorem dX10_laysSoon_136 : decode cX10_laysSoon 136 = .ok (.iload 4, 2) := by decide +kernel
theorem dX10_laysSoon_138 : decode cX10_laysSoon 138 = .ok (.iload 5, 2) := by decide +kernel
theorem dX10_laysSoon_140 : decode cX10_laysSoon 140 = .ok (.iastore, 1) := by decide +kernel
theorem dX10_laysSoon_141 : decode cX10_laysSoon 141 = .ok (.aload_n 0, 1) := by decide +kernel
theorem dX10_laysSoon_142 : decode cX10_laysSoon 142 = .ok (.iload 5, 2) := by decide +kernel
theorem dX10_laysSoon_144 : decode cX10_laysSoon 144 = .ok (.iload_n 3, 1) := by decide +kernel
theorem dX10_laysSoon_145 : decode cX10_laysSoon 145 = .ok (.invokevirtual 295, 3) := by decide +kernel
theorem dX10_laysSoon_148 : decode cX10_laysSoon 148 = .ok (.istore_n 1, 1) := by decide +kernel
theorem dX10_laysSoon_149 : decode cX10_laysSoon 149 = .ok (.iinc 2 1, 3) := by decide +kernel
theorem dX10_laysSoon_152 : decode cX10_laysSoon 152 = .ok (.goto (-140), 3) := by decide +kernel
theorem dX10_laysSoon_155 : decode cX10_laysSoon 155 = .ok (.return_, 1) := by decide +kernel
theorem dX10_laysClasses_0 : decode cX10_laysClasses 0 = .ok (.aload_n 0, 1) := by decide +kernel
theorem dX10_laysClasses_1 : decode cX10_laysClasses 1 = .ok (.iconst 0, 1) := by decide +kernel
theorem dX10_laysClasses_2 : decode cX10_laysClasses 2 = .ok (.putfield 342, 3) := by decide +kernel
theorem dX10_laysClasses_5 : decode cX10_laysClasses 5 = .ok (.aload_n 0, 1) := by decide +kernel
theorem dX10_laysClasses_6 : decode cX10_laysClasses 6 = .ok (.invokevirtual 345, 3) := by decide +kernel
theorem dX10_laysClasses_9 : decode cX10_laysClasses 9 = .ok (.iconst 0, 1) := by decide +kernel
theorem dX10_laysClasses_10 : decode cX10_laysClasses 10 = .ok (.istore_n 1, 1) := by decide +kernel
theorem dX10_laysClasses_11 : decode cX10_laysClasses 11 = .ok (.iload_n 1, 1) := by decide +kernel
theorem dX10_laysClasses_12 : decode cX10_laysClasses 12 = .ok (.bipush 24, 2) := by decide +kernel
theorem dX10_laysClasses_14 : decode cX10_laysClasses 14 = .ok (.if_icmp .ge 16, 3) := by decide +kernel
theorem dX10_laysClasses_17 : decode cX10_laysClasses 17 = .ok (.aload_n 0, 1) := by decide +kernel
theorem dX10_laysClasses_18 : decode cX10_laysClasses 18 = .ok (.getfield 84, 3) := by decide +kernel
theorem dX10_laysClasses_21 : decode cX10_laysClasses 21 = .ok (.iload_n 1, 1) := by decide +kernel
theorem dX10_laysClasses_22 : decode cX10_laysClasses 22 = .ok (.iconst 0, 1) := by decide +kernel
theorem dX10_laysClasses_23 : decode cX10_laysClasses 23 = .ok (.iastore, 1) := by decide +kernel
theorem dX10_laysClasses_24 : decode cX10_laysClasses 24 = .ok (.iinc 1 1, 3) := by decide +kernel
theorem dX10_laysClasses_27 : decode cX10_laysClasses 27 = .ok (.goto (-16), 3) := by decide +kernel
theorem dX10_laysClasses_30 : decode cX10_laysClasses 30 = .ok (.iconst 0, 1) := by decide +kernel
theorem dX10_laysClasses_31 : decode cX10_laysClasses 31 = .ok (.istore_n 1, 1) := by decide +kernel
theorem dX10_laysClasses_32 : decode cX10_laysClasses 32 = .ok (.iload_n 1, 1) := by decide +kernel
theorem dX10_laysClasses_33 : decode cX10_laysClasses 33 = .ok (.aload_n 0, 1) := by decide +kernel
theorem dX10_laysClasses_34 : decode cX10_laysClasses 34 = .ok (.invokevirtual 218, 3) := by decide +kernel
theorem dX10_laysClasses_37 : decode cX10_laysClasses 37 = .ok (.if_icmp .ge 116, 3) := by decide +kernel
theorem dX10_laysClasses_40 : decode cX10_laysClasses 40 = .ok (.iload_n 1, 1) := by decide +kernel
theorem dX10_laysClasses_41 : decode cX10_laysClasses 41 = .ok (.aload_n 0, 1) := by decide +kernel
theorem dX10_laysClasses_42 : decode cX10_laysClasses 42 = .ok (.getfield 7, 3) := by decide +kernel
theorem dX10_laysClasses_45 : decode cX10_laysClasses 45 = .ok (.iconst 1, 1) := by decide +kernel
theorem dX10_laysClasses_46 : decode cX10_laysClasses 46 = .ok (.iaload, 1) := by decide +kernel
theorem dX10_laysClasses_47 : decode cX10_laysClasses 47 = .ok (.idiv, 1) := by decide +kernel
theorem dX10_laysClasses_48 : decode cX10_laysClasses 48 = .ok (.aload_n 0, 1) := by decide +kernel
theorem dX10_laysClasses_49 : decode cX10_laysClasses 49 = .ok (.getfield 7, 3) := by decide +kernel
theorem dX10_laysClasses_52 : decode cX10_laysClasses 52 = .ok (.iconst 0, 1) := by decide +kernel
theorem dX10_laysClasses_53 : decode cX10_laysClasses 53 = .ok (.iaload, 1) := by decide +kernel
theorem dX10_laysClasses_54 : decode cX10_laysClasses 54 = .ok (.iconst 1, 1) := by decide +kernel
theorem dX10_laysClasses_55 : decode cX10_laysClasses 55 = .ok (.isub, 1) := by decide +kernel
theorem dX10_laysClasses_56 : decode cX10_laysClasses 56 = .ok (.if_icmp .ne 16, 3) := by decide +kernel
theorem dX10_laysClasses_59 : decode cX10_laysClasses 59 = .ok (.aload_n 0, 1) := by decide +kernel
theorem dX10_laysClasses_60 : decode cX10_laysClasses 60 = .ok (.getfield 7, 3) := by decide +kernel
theorem dX10_laysClasses_63 : decode cX10_laysClasses 63 = .ok (.iconst 3, 1) := by decide +kernel
theorem dX10_laysClasses_64 : decode cX10_laysClasses 64 = .ok (.iaload, 1) := by decide +kernel
theorem dX10_laysClasses_65 : decode cX10_laysClasses 65 = .ok (.ifCond .le 7, 3) := by decide +kernel
theorem dX10_laysClasses_68 : decode cX10_laysClasses 68 = .ok (.iconst 1, 1) := by decide +kernel
theorem dX10_laysClasses_69 : decode cX10_laysClasses 69 = .ok (.goto 4, 3) := by decide +kernel
theorem dX10_laysClasses_72 : decode cX10_laysClasses 72 = .ok (.iconst 0, 1) := by decide +kernel
theorem dX10_laysClasses_73 : decode cX10_laysClasses 73 = .ok (.istore_n 2, 1) := by decide +kernel
theorem dX10_laysClasses_74 : decode cX10_laysClasses 74 = .ok (.iload_n 2, 1) := by decide +kernel
theorem dX10_laysClasses_75 : decode cX10_laysClasses 75 = .ok (.ifCond .eq 24, 3) := by decide +kernel
theorem dX10_laysClasses_78 : decode cX10_laysClasses 78 = .ok (.bipush 12, 2) := by decide +kernel
theorem dX10_laysClasses_80 : decode cX10_laysClasses 80 = .ok (.iload_n 1, 1) := by decide +kernel
theorem dX10_laysClasses_81 : decode cX10_laysClasses 81 = .ok (.aload_n 0, 1) := by decide +kernel
theorem dX10_laysClasses_82 : decode cX10_laysClasses 82 = .ok (.getfield 7, 3) := by decide +kernel
theorem dX10_laysClasses_85 : decode cX10_laysClasses 85 = .ok (.iconst 1, 1) := by decide +kernel
theorem dX10_laysClasses_86 : decode cX10_laysClasses 86 = .ok (.iaload, 1) := by decide +kernel
theorem dX10_laysClasses_87 : decode cX10_laysClasses 87 = .ok (.irem, 1) := by decide +kernel
theorem dX10_laysClasses_88 : decode cX10_laysClasses 88 = .ok (.aload_n 0, 1) := by decide +kernel
theorem dX10_laysClasses_89 : decode cX10_laysClasses 89 = .ok (.getfield 7, 3) := by decide +kernel
theorem dX10_laysClasses_92 : decode cX10_laysClasses 92 = .ok (.iconst 3, 1) := by decide +kernel
theorem dX10_laysClasses_93 : decode cX10_laysClasses 93 = .ok (.iaload, 1) := by decide +kernel
theorem dX10_laysClasses_94 : decode cX10_laysClasses 94 = .ok (.irem, 1) := by decide +kernel
theorem dX10_laysClasses_95 : decode cX10_laysClasses 95 = .ok (.iadd, 1) := by decide +kernel
theorem dX10_laysClasses_96 : decode cX10_laysClasses 96 = .ok (.goto 11, 3) := by decide +kernel
theorem dX10_laysClasses_99 : decode cX10_laysClasses 99 = .ok (.iload_n 1, 1) := by decide +kernel
theorem dX10_laysClasses_100 : decode cX10_laysClasses 100 = .ok (.aload_n 0, 1) := by decide +kernel
theorem dX10_laysClasses_101 : decode cX10_laysClasses 101 = .ok (.getfield 7, 3) := by decide +kernel
theorem dX10_laysClasses_104 : decode cX10_laysClasses 104 = .ok (.iconst 1, 1) := by decide +kernel
theorem dX10_laysClasses_105 : decode cX10_laysClasses 105 = .ok (.iaload, 1) := by decide +kernel
theorem dX10_laysClasses_106 : decode cX10_laysClasses 106 = .ok (.irem, 1) := by decide +kernel
theorem dX10_laysClasses_107 : decode cX10_laysClasses 107 = .ok (.istore_n 3, 1) := by decide +kernel
theorem dX10_laysClasses_108 : decode cX10_laysClasses 108 = .ok (.aload_n 0, 1) := by decide +kernel
theorem dX10_laysClasses_109 : decode cX10_laysClasses 109 = .ok (.getfield 81, 3) := by decide +kernel
theorem dX10_laysClasses_112 : decode cX10_laysClasses 112 = .ok (.iload_n 1, 1) := by decide +kernel
theorem dX10_laysClasses_113 : decode cX10_laysClasses 113 = .ok (.aload_n 0, 1) := by decide +kernel
theorem dX10_laysClasses_114 : decode cX10_laysClasses 114 = .ok (.iload_n 1, 1) := by decide +kernel
theorem dX10_laysClasses_115 : decode cX10_laysClasses 115 = .ok (.invokevirtual 339, 3) := by decide +kernel
theorem dX10_laysClasses_118 : decode cX10_laysClasses 118 = .ok (.ifCond .eq 7, 3) := by decide +kernel
theorem dX10_laysClasses_121 : decode cX10_laysClasses 121 = .ok (.iconst (-1), 1) := by decide +kernel
theorem dX10_laysClasses_122 : decode cX10_laysClasses 122 = .ok (.goto 4, 3) := by decide +kernel
theorem dX10_laysClasses_125 : decode cX10_laysClasses 125 = .ok (.iload_n 3, 1) := by decide +kernel
theorem dX10_laysClasses_126 : decode cX10_laysClasses 126 = .ok (.iastore, 1) := by decide +kernel
theorem dX10_laysClasses_127 : decode cX10_laysClasses 127 = .ok (.aload_n 0, 1) := by decide +kernel
theorem dX10_laysClasses_128 : decode cX10_laysClasses 128 = .ok (.getfield 81, 3) := by decide +kernel
theorem dX10_laysClasses_131 : decode cX10_laysClasses 131 = .ok (.iload_n 1, 1) := by decide +kernel
theorem dX10_laysClasses_132 : decode cX10_laysClasses 132 = .ok (.iaload, 1) := by decide +kernel
theorem dX10_laysClasses_133 : decode cX10_laysClasses 133 = .ok (.iconst (-1), 1) := by decide +kernel
theorem dX10_laysClasses_134 : decode cX10_laysClasses 134 = .ok (.if_icmp .eq 13, 3) := by decide +kernel
theorem dX10_laysClasses_137 : decode cX10_laysClasses 137 = .ok (.aload_n 0, 1) := by decide +kernel
theorem dX10_laysClasses_138 : decode cX10_laysClasses 138 = .ok (.getfield 84, 3) := by decide +kernel
theorem dX10_laysClasses_141 : decode cX10_laysClasses 141 = .ok (.iload_n 3, 1) := by decide +kernel
theorem dX10_laysClasses_142 : decode cX10_laysClasses 142 = .ok (.dup2, 1) := by decide +kernel
theorem dX10_laysClasses_143 : decode cX10_laysClasses 143 = .ok (.iaload, 1) := by decide +kernel
theorem dX10_laysClasses_144 : decode cX10_laysClasses 144 = .ok (.iconst 1, 1) := by decide +kernel
theorem dX10_laysClasses_145 : decode cX10_laysClasses 145 = .ok (.iadd, 1) := by decide +kernel
theorem dX10_laysClasses_146 : decode cX10_laysClasses 146 = .ok (.iastore, 1) := by decide +kernel
theorem dX10_laysClasses_147 : decode cX10_laysClasses 147 = .ok (.iinc 1 1, 3) := by decide +kernel
theorem dX10_laysClasses_150 : decode cX10_laysClasses 150 = .ok (.goto (-118), 3) := by decide +kernel
theorem dX10_laysClasses_153 : decode cX10_laysClasses 153 = .ok (.return_, 1) := by decide +kernel
theorem dX10_triesAll_0 : decode cX10_triesAll 0 = .ok (.aload_n 0, 1) := by decide +kernel
theorem dX10_triesAll_1 : decode cX10_triesAll 1 = .ok (.getfield 240, 3) := by decide +kernel
theorem dX10_triesAll_4 : decode cX10_triesAll 4 = .ok (.ifCond .eq 4, 3) := by decide +kernel
theorem dX10_triesAll_7 : decode cX10_triesAll 7 = .ok (.return_, 1) := by decide +kernel
theorem dX10_triesAll_8 : decode cX10_triesAll 8 = .ok (.aload_n 0, 1) := by decide +kernel
theorem dX10_triesAll_9 : decode cX10_triesAll 9 = .ok (.iconst 1, 1) := by decide +kernel
theorem dX10_triesAll_10 : decode cX10_triesAll 10 = .ok (.putfield 240, 3) := by decide +kernel
theorem dX10_triesAll_13 : decode cX10_triesAll 13 = .ok (.aload_n 0, 1) := by decide +kernel
theorem dX10_triesAll_14 : decode cX10_triesAll 14 = .ok (.invokevirtual 348, 3) := by decide +kernel
theorem dX10_triesAll_17 : decode cX10_triesAll 17 = .ok (.aload_n 0, 1) := by decide +kernel
theorem dX10_triesAll_18 : decode cX10_triesAll 18 = .ok (.iconst 0, 1) := by decide +kernel
theorem dX10_triesAll_19 : decode cX10_triesAll 19 = .ok (.putfield 351, 3) := by decide +kernel
theorem dX10_triesAll_22 : decode cX10_triesAll 22 = .ok (.iconst 0, 1) := by decide +kernel
theorem dX10_triesAll_23 : decode cX10_triesAll 23 = .ok (.istore_n 1, 1) := by decide +kernel
theorem dX10_triesAll_24 : decode cX10_triesAll 24 = .ok (.iload_n 1, 1) := by decide +kernel
theorem dX10_triesAll_25 : decode cX10_triesAll 25 = .ok (.aload_n 0, 1) := by decide +kernel
theorem dX10_triesAll_26 : decode cX10_triesAll 26 = .ok (.getfield 7, 3) := by decide +kernel
theorem dX10_triesAll_29 : decode cX10_triesAll 29 = .ok (.iconst 5, 1) := by decide +kernel
theorem dX10_triesAll_30 : decode cX10_triesAll 30 = .ok (.iaload, 1) := by decide +kernel
theorem dX10_triesAll_31 : decode cX10_triesAll 31 = .ok (.if_icmp .ge 37, 3) := by decide +kernel
theorem dX10_triesAll_34 : decode cX10_triesAll 34 = .ok (.aload_n 0, 1) := by decide +kernel
theorem dX10_triesAll_35 : decode cX10_triesAll 35 = .ok (.iload_n 1, 1) := by decide +kernel
theorem dX10_triesAll_36 : decode cX10_triesAll 36 = .ok (.invokevirtual 324, 3) := by decide +kernel
theorem dX10_triesAll_39 : decode cX10_triesAll 39 = .ok (.ifCond .eq 23, 3) := by decide +kernel
theorem dX10_triesAll_42 : decode cX10_triesAll 42 = .ok (.aload_n 0, 1) := by decide +kernel
theorem dX10_triesAll_43 : decode cX10_triesAll 43 = .ok (.getfield 90, 3) := by decide +kernel
theorem dX10_triesAll_46 : decode cX10_triesAll 46 = .ok (.aload_n 0, 1) := by decide +kernel
theorem dX10_triesAll_47 : decode cX10_triesAll 47 = .ok (.getfield 351, 3) := by decide +kernel
theorem dX10_triesAll_50 : decode cX10_triesAll 50 = .ok (.iload_n 1, 1) := by decide +kernel
theorem dX10_triesAll_51 : decode cX10_triesAll 51 = .ok (.iastore, 1) := by decide +kernel
theorem dX10_triesAll_52 : decode cX10_triesAll 52 = .ok (.aload_n 0, 1) := by decide +kernel
theorem dX10_triesAll_53 : decode cX10_triesAll 53 = .ok (.dup, 1) := by decide +kernel
theorem dX10_triesAll_54 : decode cX10_triesAll 54 = .ok (.getfield 351, 3) := by decide +kernel
theorem dX10_triesAll_57 : decode cX10_triesAll 57 = .ok (.iconst 1, 1) := by decide +kernel
theorem dX10_triesAll_58 : decode cX10_triesAll 58 = .ok (.iadd, 1) := by decide +kernel
theorem dX10_triesAll_59 : decode cX10_triesAll 59 = .ok (.putfield 351, 3) := by decide +kernel
theorem dX10_triesAll_62 : decode cX10_triesAll 62 = .ok (.iinc 1 1, 3) := by decide +kernel
theorem dX10_triesAll_65 : decode cX10_triesAll 65 = .ok (.goto (-41), 3) := by decide +kernel
theorem dX10_triesAll_68 : decode cX10_triesAll 68 = .ok (.aload_n 0, 1) := by decide +kernel
theorem dX10_triesAll_69 : decode cX10_triesAll 69 = .ok (.invokevirtual 298, 3) := by decide +kernel
theorem dX10_triesAll_72 : decode cX10_triesAll 72 = .ok (.aload_n 0, 1) := by decide +kernel
theorem dX10_triesAll_73 : decode cX10_triesAll 73 = .ok (.invokevirtual 301, 3) := by decide +kernel
theorem dX10_triesAll_76 : decode cX10_triesAll 76 = .ok (.iconst 0, 1) := by decide +kernel
theorem dX10_triesAll_77 : decode cX10_triesAll 77 = .ok (.istore_n 1, 1) := by decide +kernel
theorem dX10_triesAll_78 : decode cX10_triesAll 78 = .ok (.iload_n 1, 1) := by decide +kernel
theorem dX10_triesAll_79 : decode cX10_triesAll 79 = .ok (.aload_n 0, 1) := by decide +kernel
theorem dX10_triesAll_80 : decode cX10_triesAll 80 = .ok (.getfield 7, 3) := by decide +kernel
theorem dX10_triesAll_83 : decode cX10_triesAll 83 = .ok (.iconst 5, 1) := by decide +kernel
theorem dX10_triesAll_84 : decode cX10_triesAll 84 = .ok (.iaload, 1) := by decide +kernel
theorem dX10_triesAll_85 : decode cX10_triesAll 85 = .ok (.if_icmp .ge 21, 3) := by decide +kernel
theorem dX10_triesAll_88 : decode cX10_triesAll 88 = .ok (.aload_n 0, 1) := by decide +kernel
theorem dX10_triesAll_89 : decode cX10_triesAll 89 = .ok (.getfield 72, 3) := by decide +kernel
theorem dX10_triesAll_92 : decode cX10_triesAll 92 = .ok (.iload_n 1, 1) := by decide +kernel
theorem dX10_triesAll_93 : decode cX10_triesAll 93 = .ok (.aload_n 0, 1) := by decide +kernel
theorem dX10_triesAll_94 : decode cX10_triesAll 94 = .ok (.getfield 75, 3) := by decide +kernel
theorem dX10_triesAll_97 : decode cX10_triesAll 97 = .ok (.iload_n 1, 1) := by decide +kernel
theorem dX10_triesAll_98 : decode cX10_triesAll 98 = .ok (.iaload, 1) := by decide +kernel
theorem dX10_triesAll_99 : decode cX10_triesAll 99 = .ok (.iastore, 1) := by decide +kernel
theorem dX10_triesAll_100 : decode cX10_triesAll 100 = .ok (.iinc 1 1, 3) := by decide +kernel
theorem dX10_triesAll_103 : decode cX10_triesAll 103 = .ok (.goto (-25), 3) := by decide +kernel
theorem dX10_triesAll_106 : decode cX10_triesAll 106 = .ok (.aload_n 0, 1) := by decide +kernel
theorem dX10_triesAll_107 : decode cX10_triesAll 107 = .ok (.ldc_w 354, 3) := by decide +kernel
theorem dX10_triesAll_110 : decode cX10_triesAll 110 = .ok (.putfield 355, 3) := by decide +kernel
theorem dX10_triesAll_113 : decode cX10_triesAll 113 = .ok (.aload_n 0, 1) := by decide +kernel
theorem dX10_triesAll_114 : decode cX10_triesAll 114 = .ok (.lconst 0, 1) := by decide +kernel
theorem dX10_triesAll_115 : decode cX10_triesAll 115 = .ok (.putfield 358, 3) := by decide +kernel
theorem dX10_triesAll_118 : decode cX10_triesAll 118 = .ok (.aload_n 0, 1) := by decide +kernel
theorem dX10_triesAll_119 : decode cX10_triesAll 119 = .ok (.iconst 0, 1) := by decide +kernel
theorem dX10_triesAll_120 : decode cX10_triesAll 120 = .ok (.putfield 362, 3) := by decide +kernel
theorem dX10_triesAll_123 : decode cX10_triesAll 123 = .ok (.aload_n 0, 1) := by decide +kernel
theorem dX10_triesAll_124 : decode cX10_triesAll 124 = .ok (.iconst 0, 1) := by decide +kernel
theorem dX10_triesAll_125 : decode cX10_triesAll 125 = .ok (.lconst 1, 1) := by decide +kernel
theorem dX10_triesAll_126 : decode cX10_triesAll 126 = .ok (.invokevirtual 365, 3) := by decide +kernel
theorem dX10_triesAll_129 : decode cX10_triesAll 129 = .ok (.return_, 1) := by decide +kernel
theorem dX10_placeOf_0 : decode cX10_placeOf 0 = .ok (.iconst 0, 1) := by decide +kernel
theorem dX10_placeOf_1 : decode cX10_placeOf 1 = .ok (.istore_n 3, 1) := by decide +kernel
theorem dX10_placeOf_2 : decode cX10_placeOf 2 = .ok (.iload_n 3, 1) := by decide +kernel
theorem dX10_placeOf_3 : decode cX10_placeOf 3 = .ok (.aload_n 0, 1) := by decide +kernel
theorem dX10_placeOf_4 : decode cX10_placeOf 4 = .ok (.invokevirtual 218, 3) := by decide +kernel
theorem dX10_placeOf_7 : decode cX10_placeOf 7 = .ok (.if_icmp .ge 76, 3) := by decide +kernel
theorem dX10_placeOf_10 : decode cX10_placeOf 10 = .ok (.aload_n 0, 1) := by decide +kernel
theorem dX10_placeOf_11 : decode cX10_placeOf 11 = .ok (.getfield 81, 3) := by decide +kernel
theorem dX10_placeOf_14 : decode cX10_placeOf 14 = .ok (.iload_n 3, 1) := by decide +kernel
theorem dX10_placeOf_15 : decode cX10_placeOf 15 = .ok (.iaload, 1) := by decide +kernel
theorem dX10_placeOf_16 : decode cX10_placeOf 16 = .ok (.iload_n 1, 1) := by decide +kernel
theorem dX10_placeOf_17 : decode cX10_placeOf 17 = .ok (.if_icmp .ne 7, 3) := by decide +kernel
theorem dX10_placeOf_20 : decode cX10_placeOf 20 = .ok (.iconst 1, 1) := by decide +kernel
theorem dX10_placeOf_21 : decode cX10_placeOf 21 = .ok (.goto 4, 3) := by decide +kernel
theorem dX10_placeOf_24 : decode cX10_placeOf 24 = .ok (.iconst 0, 1) := by decide +kernel
theorem dX10_placeOf_25 : decode cX10_placeOf 25 = .ok (.istore 4, 2) := by decide +kernel
theorem dX10_placeOf_27 : decode cX10_placeOf 27 = .ok (.iconst 0, 1) := by decide +kernel
theorem dX10_placeOf_28 : decode cX10_placeOf 28 = .ok (.istore 5, 2) := by decide +kernel
theorem dX10_placeOf_30 : decode cX10_placeOf 30 = .ok (.iload 5, 2) := by decide +kernel
theorem dX10_placeOf_32 : decode cX10_placeOf 32 = .ok (.iload_n 2, 1) := by decide +kernel
theorem dX10_placeOf_33 : decode cX10_placeOf 33 = .ok (.if_icmp .ge 37, 3) := by decide +kernel
theorem dX10_placeOf_36 : decode cX10_placeOf 36 = .ok (.iload 4, 2) := by decide +kernel
theorem dX10_placeOf_38 : decode cX10_placeOf 38 = .ok (.ifCond .eq 23, 3) := by decide +kernel
theorem dX10_placeOf_41 : decode cX10_placeOf 41 = .ok (.aload_n 0, 1) := by decide +kernel
theorem dX10_placeOf_42 : decode cX10_placeOf 42 = .ok (.getfield 72, 3) := by decide +kernel
theorem dX10_placeOf_45 : decode cX10_placeOf 45 = .ok (.aload_n 0, 1) := by decide +kernel
theorem dX10_placeOf_46 : decode cX10_placeOf 46 = .ok (.getfield 90, 3) := by decide +kernel
theorem dX10_placeOf_49 : decode cX10_placeOf 49 = .ok (.iload 5, 2) := by decide +kernel
theorem dX10_placeOf_51 : decode cX10_placeOf 51 = .ok (.iaload, 1) := by decide +kernel
theorem dX10_placeOf_52 : decode cX10_placeOf 52 = .ok (.iaload, 1) := by decide +kernel
theorem dX10_placeOf_53 : decode cX10_placeOf 53 = .ok (.iload_n 3, 1) := by decide +kernel
theorem dX10_placeOf_54 : decode cX10_placeOf 54 = .ok (.if_icmp .eq 7, 3) := by decide +kernel
theorem dX10_placeOf_57 : decode cX10_placeOf 57 = .ok (.iconst 1, 1) := by decide +kernel
theorem dX10_placeOf_58 : decode cX10_placeOf 58 = .ok (.goto 4, 3) := by decide +kernel
theorem dX10_placeOf_61 : decode cX10_placeOf 61 = .ok (.iconst 0, 1) := by decide +kernel
theorem dX10_placeOf_62 : decode cX10_placeOf 62 = .ok (.istore 4, 2) := by decide +kernel
theorem dX10_placeOf_64 : decode cX10_placeOf 64 = .ok (.iinc 5 1, 3) := by decide +kernel
theorem dX10_placeOf_67 : decode cX10_placeOf 67 = .ok (.goto (-37), 3) := by decide +kernel
theorem dX10_placeOf_70 : decode cX10_placeOf 70 = .ok (.iload 4, 2) := by decide +kernel
theorem dX10_placeOf_72 : decode cX10_placeOf 72 = .ok (.ifCond .eq 5, 3) := by decide +kernel
theorem dX10_placeOf_75 : decode cX10_placeOf 75 = .ok (.iload_n 3, 1) := by decide +kernel
theorem dX10_placeOf_76 : decode cX10_placeOf 76 = .ok (.ireturn, 1) := by decide +kernel
theorem dX10_placeOf_77 : decode cX10_placeOf 77 = .ok (.iinc 3 1, 3) := by decide +kernel
theorem dX10_placeOf_80 : decode cX10_placeOf 80 = .ok (.goto (-78), 3) := by decide +kernel
theorem dX10_placeOf_83 : decode cX10_placeOf 83 = .ok (.iconst (-1), 1) := by decide +kernel
theorem dX10_placeOf_84 : decode cX10_placeOf 84 = .ok (.ireturn, 1) := by decide +kernel
theorem dX10_tries_0 : decode cX10_tries 0 = .ok (.iload_n 1, 1) := by decide +kernel
theorem dX10_tries_1 : decode cX10_tries 1 = .ok (.aload_n 0, 1) := by decide +kernel
theorem dX10_tries_2 : decode cX10_tries 2 = .ok (.getfield 351, 3) := by decide +kernel
theorem dX10_tries_5 : decode cX10_tries 5 = .ok (.if_icmp .ne 9, 3) := by decide +kernel
theorem dX10_tries_8 : decode cX10_tries 8 = .ok (.aload_n 0, 1) := by decide +kernel
theorem dX10_tries_9 : decode cX10_tries 9 = .ok (.lload_n 2, 1) := by decide +kernel
theorem dX10_tries_10 : decode cX10_tries 10 = .ok (.invokevirtual 369, 3) := by decide +kernel
theorem dX10_tries_13 : decode cX10_tries 13 = .ok (.return_, 1) := by decide +kernel
theorem dX10_tries_14 : decode cX10_tries 14 = .ok (.iconst 0, 1) := by decide +kernel
theorem dX10_tries_15 : decode cX10_tries 15 = .ok (.istore 4, 2) := by decide +kernel
theorem dX10_tries_17 : decode cX10_tries 17 = .ok (.iload 4, 2) := by decide +kernel
theorem dX10_tries_19 : decode cX10_tries 19 = .ok (.bipush 24, 2) := by decide +kernel
theorem dX10_tries_21 : decode cX10_tries 21 = .ok (.if_icmp .ge 78, 3) := by decide +kernel
theorem dX10_tries_24 : decode cX10_tries 24 = .ok (.aload_n 0, 1) := by decide +kernel
theorem dX10_tries_25 : decode cX10_tries 25 = .ok (.getfield 84, 3) := by decide +kernel
theorem dX10_tries_28 : decode cX10_tries 28 = .ok (.iload 4, 2) := by decide +kernel
theorem dX10_tries_30 : decode cX10_tries 30 = .ok (.iaload, 1) := by decide +kernel
theorem dX10_tries_31 : decode cX10_tries 31 = .ok (.ifCond .le 62, 3) := by decide +kernel
theorem dX10_tries_34 : decode cX10_tries 34 = .ok (.aload_n 0, 1) := by decide +kernel
theorem dX10_tries_35 : decode cX10_tries 35 = .ok (.getfield 72, 3) := by decide +kernel
theorem dX10_tries_38 : decode cX10_tries 38 = .ok (.aload_n 0, 1) := by decide +kernel
theorem dX10_tries_39 : decode cX10_tries 39 = .ok (.getfield 90, 3) := by decide +kernel
theorem dX10_tries_42 : decode cX10_tries 42 = .ok (.iload_n 1, 1) := by decide +kernel
theorem dX10_tries_43 : decode cX10_tries 43 = .ok (.iaload, 1) := by decide +kernel
theorem dX10_tries_44 : decode cX10_tries 44 = .ok (.aload_n 0, 1) := by decide +kernel
theorem dX10_tries_45 : decode cX10_tries 45 = .ok (.iload 4, 2) := by decide +kernel
theorem dX10_tries_47 : decode cX10_tries 47 = .ok (.iload_n 1, 1) := by decide +kernel
theorem dX10_tries_48 : decode cX10_tries 48 = .ok (.invokevirtual 373, 3) := by decide +kernel
theorem dX10_tries_51 : decode cX10_tries 51 = .ok (.iastore, 1) := by decide +kernel
theorem dX10_tries_52 : decode cX10_tries 52 = .ok (.aload_n 0, 1) := by decide +kernel
theorem dX10_tries_53 : decode cX10_tries 53 = .ok (.getfield 84, 3) := by decide +kernel
theorem dX10_tries_56 : decode cX10_tries 56 = .ok (.iload 4, 2) := by decide +kernel
theorem dX10_tries_58 : decode cX10_tries 58 = .ok (.dup2, 1) := by decide +kernel
theorem dX10_tries_59 : decode cX10_tries 59 = .ok (.iaload, 1) := by decide +kernel
theorem dX10_tries_60 : decode cX10_tries 60 = .ok (.iconst 1, 1) := by decide +kernel
theorem dX10_tries_61 : decode cX10_tries 61 = .ok (.isub, 1) := by decide +kernel
theorem dX10_tries_62 : decode cX10_tries 62 = .ok (.iastore, 1) := by decide +kernel
theorem dX10_tries_63 : decode cX10_tries 63 = .ok (.aload_n 0, 1) := by decide +kernel
theorem dX10_tries_64 : decode cX10_tries 64 = .ok (.iload_n 1, 1) := by decide +kernel
theorem dX10_tries_65 : decode cX10_tries 65 = .ok (.iconst 1, 1) := by decide +kernel
theorem dX10_tries_66 : decode cX10_tries 66 = .ok (.iadd, 1) := by decide +kernel
theorem dX10_tries_67 : decode cX10_tries 67 = .ok (.lload_n 2, 1) := by decide +kernel
theorem dX10_tries_68 : decode cX10_tries 68 = .ok (.aload_n 0, 1) := by decide +kernel
theorem dX10_tries_69 : decode cX10_tries 69 = .ok (.getfield 84, 3) := by decide +kernel
theorem dX10_tries_72 : decode cX10_tries 72 = .ok (.iload 4, 2) := by decide +kernel
theorem dX10_tries_74 : decode cX10_tries 74 = .ok (.iaload, 1) := by decide +kernel
theorem dX10_tries_75 : decode cX10_tries 75 = .ok (.iconst 1, 1) := by decide +kernel
theorem dX10_tries_76 : decode cX10_tries 76 = .ok (.iadd, 1) := by decide +kernel
theorem dX10_tries_77 : decode cX10_tries 77 = .ok (.i2l, 1) := by decide +kernel
theorem dX10_tries_78 : decode cX10_tries 78 = .ok (.lmul, 1) := by decide +kernel
theorem dX10_tries_79 : decode cX10_tries 79 = .ok (.invokevirtual 365, 3) := by decide +kernel
theorem dX10_tries_82 : decode cX10_tries 82 = .ok (.aload_n 0, 1) := by decide +kernel
theorem dX10_tries_83 : decode cX10_tries 83 = .ok (.getfield 84, 3) := by decide +kernel
theorem dX10_tries_86 : decode cX10_tries 86 = .ok (.iload 4, 2) := by decide +kernel
theorem dX10_tries_88 : decode cX10_tries 88 = .ok (.dup2, 1) := by decide +kernel
theorem dX10_tries_89 : decode cX10_tries 89 = .ok (.iaload, 1) := by decide +kernel
theorem dX10_tries_90 : decode cX10_tries 90 = .ok (.iconst 1, 1) := by decide +kernel
theorem dX10_tries_91 : decode cX10_tries 91 = .ok (.iadd, 1) := by decide +kernel
theorem dX10_tries_92 : decode cX10_tries 92 = .ok (.iastore, 1) := by decide +kernel
theorem dX10_tries_93 : decode cX10_tries 93 = .ok (.iinc 4 1, 3) := by decide +kernel
theorem dX10_tries_96 : decode cX10_tries 96 = .ok (.goto (-79), 3) := by decide +kernel
theorem dX10_tries_99 : decode cX10_tries 99 = .ok (.return_, 1) := by decide +kernel
theorem dX10_weighs_0 : decode cX10_weighs 0 = .ok (.aload_n 0, 1) := by decide +kernel
theorem dX10_weighs_1 : decode cX10_weighs 1 = .ok (.invokevirtual 304, 3) := by decide +kernel
theorem dX10_weighs_4 : decode cX10_weighs 4 = .ok (.istore_n 3, 1) := by decide +kernel
theorem dX10_weighs_5 : decode cX10_weighs 5 = .ok (.aload_n 0, 1) := by decide +kernel
theorem dX10_weighs_6 : decode cX10_weighs 6 = .ok (.aload_n 0, 1) := by decide +kernel
theorem dX10_weighs_7 : decode cX10_weighs 7 = .ok (.getfield 362, 3) := by decide +kernel
theorem dX10_weighs_10 : decode cX10_weighs 10 = .ok (.iload_n 3, 1) := by decide +kernel
theorem dX10_weighs_11 : decode cX10_weighs 11 = .ok (.invokestatic 376, 3) := by decide +kernel
theorem dX10_weighs_14 : decode cX10_weighs 14 = .ok (.putfield 362, 3) := by decide +kernel
theorem dX10_weighs_17 : decode cX10_weighs 17 = .ok (.iload_n 3, 1) := by decide +kernel
theorem dX10_weighs_18 : decode cX10_weighs 18 = .ok (.aload_n 0, 1) := by decide +kernel
theorem dX10_weighs_19 : decode cX10_weighs 19 = .ok (.getfield 355, 3) := by decide +kernel
theorem dX10_weighs_22 : decode cX10_weighs 22 = .ok (.if_icmp .le 4, 3) := by decide +kernel
theorem dX10_weighs_25 : decode cX10_weighs 25 = .ok (.return_, 1) := by decide +kernel
theorem dX10_weighs_26 : decode cX10_weighs 26 = .ok (.iload_n 3, 1) := by decide +kernel
theorem dX10_weighs_27 : decode cX10_weighs 27 = .ok (.aload_n 0, 1) := by decide +kernel
theorem dX10_weighs_28 : decode cX10_weighs 28 = .ok (.getfield 355, 3) := by decide +kernel
theorem dX10_weighs_31 : decode cX10_weighs 31 = .ok (.if_icmp .ge 7, 3) := by decide +kernel
theorem dX10_weighs_34 : decode cX10_weighs 34 = .ok (.iconst 1, 1) := by decide +kernel
theorem dX10_weighs_35 : decode cX10_weighs 35 = .ok (.goto 4, 3) := by decide +kernel
theorem dX10_weighs_38 : decode cX10_weighs 38 = .ok (.iconst 0, 1) := by decide +kernel
theorem dX10_weighs_39 : decode cX10_weighs 39 = .ok (.istore 4, 2) := by decide +kernel
theorem dX10_weighs_41 : decode cX10_weighs 41 = .ok (.aload_n 0, 1) := by decide +kernel
theorem dX10_weighs_42 : decode cX10_weighs 42 = .ok (.iload 4, 2) := by decide +kernel
theorem dX10_weighs_44 : decode cX10_weighs 44 = .ok (.ifCond .eq 7, 3) := by decide +kernel
theorem dX10_weighs_47 : decode cX10_weighs 47 = .ok (.lload_n 1, 1) := by decide +kernel
theorem dX10_weighs_48 : decode cX10_weighs 48 = .ok (.goto 9, 3) := by decide +kernel
theorem dX10_weighs_51 : decode cX10_weighs 51 = .ok (.aload_n 0, 1) := by decide +kernel
theorem dX10_weighs_52 : decode cX10_weighs 52 = .ok (.getfield 358, 3) := by decide +kernel
theorem dX10_weighs_55 : decode cX10_weighs 55 = .ok (.lload_n 1, 1) := by decide +kernel
theorem dX10_weighs_56 : decode cX10_weighs 56 = .ok (.ladd, 1) := by decide +kernel
theorem dX10_weighs_57 : decode cX10_weighs 57 = .ok (.putfield 358, 3) := by decide +kernel
theorem dX10_weighs_60 : decode cX10_weighs 60 = .ok (.iload 4, 2) := by decide +kernel
theorem dX10_weighs_62 : decode cX10_weighs 62 = .ok (.ifCond .ne 10, 3) := by decide +kernel
theorem dX10_weighs_65 : decode cX10_weighs 65 = .ok (.aload_n 0, 1) := by decide +kernel
theorem dX10_weighs_66 : decode cX10_weighs 66 = .ok (.invokevirtual 379, 3) := by decide +kernel
theorem dX10_weighs_69 : decode cX10_weighs 69 = .ok (.ifCond .eq 42, 3) := by decide +kernel
theorem dX10_weighs_72 : decode cX10_weighs 72 = .ok (.aload_n 0, 1) := by decide +kernel
theorem dX10_weighs_73 : decode cX10_weighs 73 = .ok (.iload_n 3, 1) := by decide +kernel
theorem dX10_weighs_74 : decode cX10_weighs 74 = .ok (.putfield 355, 3) := by decide +kernel
theorem dX10_weighs_77 : decode cX10_weighs 77 = .ok (.iconst 0, 1) := by decide +kernel
theorem dX10_weighs_78 : decode cX10_weighs 78 = .ok (.istore 5, 2) := by decide +kernel
theorem dX10_weighs_80 : decode cX10_weighs 80 = .ok (.iload 5, 2) := by decide +kernel
theorem dX10_weighs_82 : decode cX10_weighs 82 = .ok (.aload_n 0, 1) := by decide +kernel
theorem dX10_weighs_83 : decode cX10_weighs 83 = .ok (.getfield 7, 3) := by decide +kernel
theorem dX10_weighs_86 : decode cX10_weighs 86 = .ok (.iconst 5, 1) := by decide +kernel
theorem dX10_weighs_87 : decode cX10_weighs 87 = .ok (.iaload, 1) := by decide +kernel
theorem dX10_weighs_88 : decode cX10_weighs 88 = .ok (.if_icmp .ge 23, 3) := by decide +kernel
theorem dX10_weighs_91 : decode cX10_weighs 91 = .ok (.aload_n 0, 1) := by decide +kernel
theorem dX10_weighs_92 : decode cX10_weighs 92 = .ok (.getfield 78, 3) := by decide +kernel
theorem dX10_weighs_95 : decode cX10_weighs 95 = .ok (.iload 5, 2) := by decide +kernel
theorem dX10_weighs_97 : decode cX10_weighs 97 = .ok (.aload_n 0, 1) := by decide +kernel
theorem dX10_weighs_98 : decode cX10_weighs 98 = .ok (.getfield 72, 3) := by decide +kernel
theorem dX10_weighs_101 : decode cX10_weighs 101 = .ok (.iload 5, 2) := by decide +kernel
theorem dX10_weighs_103 : decode cX10_weighs 103 = .ok (.iaload, 1) := by decide +kernel
theorem dX10_weighs_104 : decode cX10_weighs 104 = .ok (.iastore, 1) := by decide +kernel
theorem dX10_weighs_105 : decode cX10_weighs 105 = .ok (.iinc 5 1, 3) := by decide +kernel
theorem dX10_weighs_108 : decode cX10_weighs 108 = .ok (.goto (-28), 3) := by decide +kernel
theorem dX10_weighs_111 : decode cX10_weighs 111 = .ok (.return_, 1) := by decide +kernel
theorem dX10_isAhead_0 : decode cX10_isAhead 0 = .ok (.iconst 0, 1) := by decide +kernel
theorem dX10_isAhead_1 : decode cX10_isAhead 1 = .ok (.istore_n 1, 1) := by decide +kernel
theorem dX10_isAhead_2 : decode cX10_isAhead 2 = .ok (.iload_n 1, 1) := by decide +kernel
theorem dX10_isAhead_3 : decode cX10_isAhead 3 = .ok (.aload_n 0, 1) := by decide +kernel
theorem dX10_isAhead_4 : decode cX10_isAhead 4 = .ok (.getfield 351, 3) := by decide +kernel
theorem dX10_isAhead_7 : decode cX10_isAhead 7 = .ok (.if_icmp .ge 65, 3) := by decide +kernel
theorem dX10_isAhead_10 : decode cX10_isAhead 10 = .ok (.aload_n 0, 1) := by decide +kernel
theorem dX10_isAhead_11 : decode cX10_isAhead 11 = .ok (.getfield 72, 3) := by decide +kernel
theorem dX10_isAhead_14 : decode cX10_isAhead 14 = .ok (.aload_n 0, 1) := by decide +kernel
theorem dX10_isAhead_15 : decode cX10_isAhead 15 = .ok (.getfield 90, 3) := by decide +kernel
theorem dX10_isAhead_18 : decode cX10_isAhead 18 = .ok (.iload_n 1, 1) := by decide +kernel
theorem dX10_isAhead_19 : decode cX10_isAhead 19 = .ok (.iaload, 1) := by decide +kernel
theorem dX10_isAhead_20 : decode cX10_isAhead 20 = .ok (.iaload, 1) := by decide +kernel
theorem dX10_isAhead_21 : decode cX10_isAhead 21 = .ok (.aload_n 0, 1) := by decide +kernel
theorem dX10_isAhead_22 : decode cX10_isAhead 22 = .ok (.getfield 78, 3) := by decide +kernel
theorem dX10_isAhead_25 : decode cX10_isAhead 25 = .ok (.aload_n 0, 1) := by decide +kernel
theorem dX10_isAhead_26 : decode cX10_isAhead 26 = .ok (.getfield 90, 3) := by decide +kernel
theorem dX10_isAhead_29 : decode cX10_isAhead 29 = .ok (.iload_n 1, 1) := by decide +kernel
theorem dX10_isAhead_30 : decode cX10_isAhead 30 = .ok (.iaload, 1) := by decide +kernel
theorem dX10_isAhead_31 : decode cX10_isAhead 31 = .ok (.iaload, 1) := by decide +kernel
theorem dX10_isAhead_32 : decode cX10_isAhead 32 = .ok (.if_icmp .eq 34, 3) := by decide +kernel
theorem dX10_isAhead_35 : decode cX10_isAhead 35 = .ok (.aload_n 0, 1) := by decide +kernel
theorem dX10_isAhead_36 : decode cX10_isAhead 36 = .ok (.getfield 72, 3) := by decide +kernel
theorem dX10_isAhead_39 : decode cX10_isAhead 39 = .ok (.aload_n 0, 1) := by decide +kernel
theorem dX10_isAhead_40 : decode cX10_isAhead 40 = .ok (.getfield 90, 3) := by decide +kernel
theorem dX10_isAhead_43 : decode cX10_isAhead 43 = .ok (.iload_n 1, 1) := by decide +kernel
theorem dX10_isAhead_44 : decode cX10_isAhead 44 = .ok (.iaload, 1) := by decide +kernel
theorem dX10_isAhead_45 : decode cX10_isAhead 45 = .ok (.iaload, 1) := by decide +kernel
theorem dX10_isAhead_46 : decode cX10_isAhead 46 = .ok (.aload_n 0, 1) := by decide +kernel
theorem dX10_isAhead_47 : decode cX10_isAhead 47 = .ok (.getfield 78, 3) := by decide +kernel
theorem dX10_isAhead_50 : decode cX10_isAhead 50 = .ok (.aload_n 0, 1) := by decide +kernel
theorem dX10_isAhead_51 : decode cX10_isAhead 51 = .ok (.getfield 90, 3) := by decide +kernel
theorem dX10_isAhead_54 : decode cX10_isAhead 54 = .ok (.iload_n 1, 1) := by decide +kernel
theorem dX10_isAhead_55 : decode cX10_isAhead 55 = .ok (.iaload, 1) := by decide +kernel
theorem dX10_isAhead_56 : decode cX10_isAhead 56 = .ok (.iaload, 1) := by decide +kernel
theorem dX10_isAhead_57 : decode cX10_isAhead 57 = .ok (.if_icmp .ge 7, 3) := by decide +kernel
theorem dX10_isAhead_60 : decode cX10_isAhead 60 = .ok (.iconst 1, 1) := by decide +kernel
theorem dX10_isAhead_61 : decode cX10_isAhead 61 = .ok (.goto 4, 3) := by decide +kernel
theorem dX10_isAhead_64 : decode cX10_isAhead 64 = .ok (.iconst 0, 1) := by decide +kernel
theorem dX10_isAhead_65 : decode cX10_isAhead 65 = .ok (.ireturn, 1) := by decide +kernel
theorem dX10_isAhead_66 : decode cX10_isAhead 66 = .ok (.iinc 1 1, 3) := by decide +kernel
theorem dX10_isAhead_69 : decode cX10_isAhead 69 = .ok (.goto (-67), 3) := by decide +kernel
theorem dX10_isAhead_72 : decode cX10_isAhead 72 = .ok (.iconst 0, 1) := by decide +kernel
theorem dX10_isAhead_73 : decode cX10_isAhead 73 = .ok (.ireturn, 1) := by decide +kernel
theorem dX10_laysBy_0 : decode cX10_laysBy 0 = .ok (.aload_n 0, 1) := by decide +kernel
theorem dX10_laysBy_1 : decode cX10_laysBy 1 = .ok (.invokevirtual 345, 3) := by decide +kernel
theorem dX10_laysBy_4 : decode cX10_laysBy 4 = .ok (.iload_n 1, 1) := by decide +kernel
theorem dX10_laysBy_5 : decode cX10_laysBy 5 = .ok (.iconst 1, 1) := by decide +kernel
theorem dX10_laysBy_6 : decode cX10_laysBy 6 = .ok (.if_icmp .ne 14, 3) := by decide +kernel
theorem dX10_laysBy_9 : decode cX10_laysBy 9 = .ok (.aload_n 0, 1) := by decide +kernel
theorem dX10_laysBy_10 : decode cX10_laysBy 10 = .ok (.invokevirtual 307, 3) := by decide +kernel
theorem dX10_laysBy_13 : decode cX10_laysBy 13 = .ok (.ifCond .eq 7, 3) := by decide +kernel
theorem dX10_laysBy_16 : decode cX10_laysBy 16 = .ok (.aload_n 0, 1) := by decide +kernel
theorem dX10_laysBy_17 : decode cX10_laysBy 17 = .ok (.invokevirtual 382, 3) := by decide +kernel
theorem dX10_laysBy_20 : decode cX10_laysBy 20 = .ok (.iload_n 1, 1) := by decide +kernel
theorem dX10_laysBy_21 : decode cX10_laysBy 21 = .ok (.iconst 2, 1) := by decide +kernel
theorem dX10_laysBy_22 : decode cX10_laysBy 22 = .ok (.if_icmp .ne 37, 3) := by decide +kernel
theorem dX10_laysBy_25 : decode cX10_laysBy 25 = .ok (.aload_n 0, 1) := by decide +kernel
theorem dX10_laysBy_26 : decode cX10_laysBy 26 = .ok (.invokevirtual 385, 3) := by decide +kernel
theorem dX10_laysBy_29 : decode cX10_laysBy 29 = .ok (.iconst 0, 1) := by decide +kernel
theorem dX10_laysBy_30 : decode cX10_laysBy 30 = .ok (.istore_n 2, 1) := by decide +kernel
theorem dX10_laysBy_31 : decode cX10_laysBy 31 = .ok (.iload_n 2, 1) := by decide +kernel
theorem dX10_laysBy_32 : decode cX10_laysBy 32 = .ok (.aload_n 0, 1) := by decide +kernel
theorem dX10_laysBy_33 : decode cX10_laysBy 33 = .ok (.getfield 7, 3) := by decide +kernel
theorem dX10_laysBy_36 : decode cX10_laysBy 36 = .ok (.iconst 5, 1) := by decide +kernel
theorem dX10_laysBy_37 : decode cX10_laysBy 37 = .ok (.iaload, 1) := by decide +kernel
theorem dX10_laysBy_38 : decode cX10_laysBy 38 = .ok (.if_icmp .ge 21, 3) := by decide +kernel
theorem dX10_laysBy_41 : decode cX10_laysBy 41 = .ok (.aload_n 0, 1) := by decide +kernel
theorem dX10_laysBy_42 : decode cX10_laysBy 42 = .ok (.getfield 75, 3) := by decide +kernel
theorem dX10_laysBy_45 : decode cX10_laysBy 45 = .ok (.iload_n 2, 1) := by decide +kernel
theorem dX10_laysBy_46 : decode cX10_laysBy 46 = .ok (.aload_n 0, 1) := by decide +kernel
theorem dX10_laysBy_47 : decode cX10_laysBy 47 = .ok (.getfield 78, 3) := by decide +kernel
theorem dX10_laysBy_50 : decode cX10_laysBy 50 = .ok (.iload_n 2, 1) := by decide +kernel
theorem dX10_laysBy_51 : decode cX10_laysBy 51 = .ok (.iaload, 1) := by decide +kernel
theorem dX10_laysBy_52 : decode cX10_laysBy 52 = .ok (.iastore, 1) := by decide +kernel
theorem dX10_laysBy_53 : decode cX10_laysBy 53 = .ok (.iinc 2 1, 3) := by decide +kernel
theorem dX10_laysBy_56 : decode cX10_laysBy 56 = .ok (.goto (-25), 3) := by decide +kernel
theorem dX10_laysBy_59 : decode cX10_laysBy 59 = .ok (.aload_n 0, 1) := by decide +kernel
theorem dX10_laysBy_60 : decode cX10_laysBy 60 = .ok (.invokevirtual 388, 3) := by decide +kernel
theorem dX10_laysBy_63 : decode cX10_laysBy 63 = .ok (.return_, 1) := by decide +kernel
theorem dX10_takesLaid_0 : decode cX10_takesLaid 0 = .ok (.iconst 0, 1) := by decide +kernel
theorem dX10_takesLaid_1 : decode cX10_takesLaid 1 = .ok (.istore_n 1, 1) := by decide +kernel
theorem dX10_takesLaid_2 : decode cX10_takesLaid 2 = .ok (.iload_n 1, 1) := by decide +kernel
theorem dX10_takesLaid_3 : decode cX10_takesLaid 3 = .ok (.aload_n 0, 1) := by decide +kernel
theorem dX10_takesLaid_4 : decode cX10_takesLaid 4 = .ok (.getfield 7, 3) := by decide +kernel
theorem dX10_takesLaid_7 : decode cX10_takesLaid 7 = .ok (.iconst 5, 1) := by decide +kernel
theorem dX10_takesLaid_8 : decode cX10_takesLaid 8 = .ok (.iaload, 1) := by decide +kernel
theorem dX10_takesLaid_9 : decode cX10_takesLaid 9 = .ok (.if_icmp .ge 25, 3) := by decide +kernel
theorem dX10_takesLaid_12 : decode cX10_takesLaid 12 = .ok (.aload_n 0, 1) := by decide +kernel
theorem dX10_takesLaid_13 : decode cX10_takesLaid 13 = .ok (.getfield 7, 3) := by decide +kernel
theorem dX10_takesLaid_16 : decode cX10_takesLaid 16 = .ok (.sipush 149, 3) := by decide +kernel
theorem dX10_takesLaid_19 : decode cX10_takesLaid 19 = .ok (.iload_n 1, 1) := by decide +kernel
theorem dX10_takesLaid_20 : decode cX10_takesLaid 20 = .ok (.iadd, 1) := by decide +kernel
theorem dX10_takesLaid_21 : decode cX10_takesLaid 21 = .ok (.aload_n 0, 1) := by decide +kernel
theorem dX10_takesLaid_22 : decode cX10_takesLaid 22 = .ok (.getfield 75, 3) := by decide +kernel
theorem dX10_takesLaid_25 : decode cX10_takesLaid 25 = .ok (.iload_n 1, 1) := by decide +kernel
theorem dX10_takesLaid_26 : decode cX10_takesLaid 26 = .ok (.iaload, 1) := by decide +kernel
theorem dX10_takesLaid_27 : decode cX10_takesLaid 27 = .ok (.iastore, 1) := by decide +kernel
theorem dX10_takesLaid_28 : decode cX10_takesLaid 28 = .ok (.iinc 1 1, 3) := by decide +kernel
theorem dX10_takesLaid_31 : decode cX10_takesLaid 31 = .ok (.goto (-29), 3) := by decide +kernel
theorem dX10_takesLaid_34 : decode cX10_takesLaid 34 = .ok (.return_, 1) := by decide +kernel
theorem dX10_whyNotLaw_0 : decode cX10_whyNotLaw 0 = .ok (.aload_n 0, 1) := by decide +kernel
theorem dX10_whyNotLaw_1 : decode cX10_whyNotLaw 1 = .ok (.invokevirtual 307, 3) := by decide +kernel
theorem dX10_whyNotLaw_4 : decode cX10_whyNotLaw 4 = .ok (.ifCond .eq 15, 3) := by decide +kernel
theorem dX10_whyNotLaw_7 : decode cX10_whyNotLaw 7 = .ok (.iload_n 1, 1) := by decide +kernel
theorem dX10_whyNotLaw_8 : decode cX10_whyNotLaw 8 = .ok (.i2l, 1) := by decide +kernel
theorem dX10_whyNotLaw_9 : decode cX10_whyNotLaw 9 = .ok (.lconst 0, 1) := by decide +kernel
theorem dX10_whyNotLaw_10 : decode cX10_whyNotLaw 10 = .ok (.ldc2_w 391, 3) := by decide +kernel
theorem dX10_whyNotLaw_13 : decode cX10_whyNotLaw 13 = .ok (.invokestatic 96, 3) := by decide +kernel
theorem dX10_whyNotLaw_16 : decode cX10_whyNotLaw 16 = .ok (.ifCond .ne 6, 3) := by decide +kernel
theorem dX10_whyNotLaw_19 : decode cX10_whyNotLaw 19 = .ok (.bipush (-2), 2) := by decide +kernel
theorem dX10_whyNotLaw_21 : decode cX10_whyNotLaw 21 = .ok (.ireturn, 1) := by decide +kernel
theorem dX10_whyNotLaw_22 : decode cX10_whyNotLaw 22 = .ok (.iload_n 1, 1) := by decide +kernel
theorem dX10_whyNotLaw_23 : decode cX10_whyNotLaw 23 = .ok (.iconst 2, 1) := by decide +kernel
theorem dX10_whyNotLaw_24 : decode cX10_whyNotLaw 24 = .ok (.if_icmp .ne 16, 3) := by decide +kernel
theorem dX10_whyNotLaw_27 : decode cX10_whyNotLaw 27 = .ok (.aload_n 0, 1) := by decide +kernel
theorem dX10_whyNotLaw_28 : decode cX10_whyNotLaw 28 = .ok (.invokevirtual 249, 3) := by decide +kernel
theorem dX10_whyNotLaw_31 : decode cX10_whyNotLaw 31 = .ok (.iconst 4, 1) := by decide +kernel
theorem dX10_whyNotLaw_32 : decode cX10_whyNotLaw 32 = .ok (.if_icmp .le 8, 3) := by decide +kernel
theorem dX10_whyNotLaw_35 : decode cX10_whyNotLaw 35 = .ok (.bipush (-3), 2) := by decide +kernel
theorem dX10_whyNotLaw_37 : decode cX10_whyNotLaw 37 = .ok (.goto 4, 3) := by decide +kernel
theorem dX10_whyNotLaw_40 : decode cX10_whyNotLaw 40 = .ok (.iconst 0, 1) := by decide +kernel
theorem dX10_whyNotLaw_41 : decode cX10_whyNotLaw 41 = .ok (.ireturn, 1) := by decide +kernel
theorem dX10_lawful_0 : decode cX10_lawful 0 = .ok (.aload_n 0, 1) := by decide +kernel
theorem dX10_lawful_1 : decode cX10_lawful 1 = .ok (.iload_n 1, 1) := by decide +kernel
theorem dX10_lawful_2 : decode cX10_lawful 2 = .ok (.invokevirtual 393, 3) := by decide +kernel
theorem dX10_lawful_5 : decode cX10_lawful 5 = .ok (.istore_n 2, 1) := by decide +kernel
theorem dX10_lawful_6 : decode cX10_lawful 6 = .ok (.iload_n 2, 1) := by decide +kernel
theorem dX10_lawful_7 : decode cX10_lawful 7 = .ok (.ifCond .ge 5, 3) := by decide +kernel
theorem dX10_lawful_10 : decode cX10_lawful 10 = .ok (.iload_n 2, 1) := by decide +kernel
theorem dX10_lawful_11 : decode cX10_lawful 11 = .ok (.ireturn, 1) := by decide +kernel
theorem dX10_lawful_12 : decode cX10_lawful 12 = .ok (.aload_n 0, 1) := by decide +kernel
theorem dX10_lawful_13 : decode cX10_lawful 13 = .ok (.iload_n 1, 1) := by decide +kernel
theorem dX10_lawful_14 : decode cX10_lawful 14 = .ok (.invokevirtual 243, 3) := by decide +kernel
theorem dX10_lawful_17 : decode cX10_lawful 17 = .ok (.aload_n 0, 1) := by decide +kernel
theorem dX10_lawful_18 : decode cX10_lawful 18 = .ok (.invokevirtual 298, 3) := by decide +kernel
theorem dX10_lawful_21 : decode cX10_lawful 21 = .ok (.aload_n 0, 1) := by decide +kernel
theorem dX10_lawful_22 : decode cX10_lawful 22 = .ok (.invokevirtual 301, 3) := by decide +kernel
theorem dX10_lawful_25 : decode cX10_lawful 25 = .ok (.iconst 0, 1) := by decide +kernel
theorem dX10_lawful_26 : decode cX10_lawful 26 = .ok (.istore_n 3, 1) := by decide +kernel
theorem dX10_lawful_27 : decode cX10_lawful 27 = .ok (.iload_n 3, 1) := by decide +kernel
theorem dX10_lawful_28 : decode cX10_lawful 28 = .ok (.aload_n 0, 1) := by decide +kernel
theorem dX10_lawful_29 : decode cX10_lawful 29 = .ok (.getfield 7, 3) := by decide +kernel
theorem dX10_lawful_32 : decode cX10_lawful 32 = .ok (.iconst 5, 1) := by decide +kernel
theorem dX10_lawful_33 : decode cX10_lawful 33 = .ok (.iaload, 1) := by decide +kernel
theorem dX10_lawful_34 : decode cX10_lawful 34 = .ok (.if_icmp .ge 21, 3) := by decide +kernel
theorem dX10_lawful_37 : decode cX10_lawful 37 = .ok (.aload_n 0, 1) := by decide +kernel
theorem dX10_lawful_38 : decode cX10_lawful 38 = .ok (.getfield 72, 3) := by decide +kernel
theorem dX10_lawful_41 : decode cX10_lawful 41 = .ok (.iload_n 3, 1) := by decide +kernel
theorem dX10_lawful_42 : decode cX10_lawful 42 = .ok (.aload_n 0, 1) := by decide +kernel
theorem dX10_lawful_43 : decode cX10_lawful 43 = .ok (.getfield 75, 3) := by decide +kernel
theorem dX10_lawful_46 : decode cX10_lawful 46 = .ok (.iload_n 3, 1) := by decide +kernel
theorem dX10_lawful_47 : decode cX10_lawful 47 = .ok (.iaload, 1) := by decide +kernel
theorem dX10_lawful_48 : decode cX10_lawful 48 = .ok (.iastore, 1) := by decide +kernel
theorem dX10_lawful_49 : decode cX10_lawful 49 = .ok (.iinc 3 1, 3) := by decide +kernel
theorem dX10_lawful_52 : decode cX10_lawful 52 = .ok (.goto (-25), 3) := by decide +kernel
theorem dX10_lawful_55 : decode cX10_lawful 55 = .ok (.aload_n 0, 1) := by decide +kernel
theorem dX10_lawful_56 : decode cX10_lawful 56 = .ok (.invokevirtual 304, 3) := by decide +kernel
theorem dX10_lawful_59 : decode cX10_lawful 59 = .ok (.ireturn, 1) := by decide +kernel
theorem dX10_address_0 : decode cX10_address 0 = .ok (.aload_n 0, 1) := by decide +kernel
theorem dX10_address_1 : decode cX10_address 1 = .ok (.iload_n 2, 1) := by decide +kernel
theorem dX10_address_2 : decode cX10_address 2 = .ok (.invokevirtual 252, 3) := by decide +kernel
theorem dX10_address_5 : decode cX10_address 5 = .ok (.ifCond .ne 6, 3) := by decide +kernel
theorem dX10_address_8 : decode cX10_address 8 = .ok (.bipush (-2), 2) := by decide +kernel
theorem dX10_address_10 : decode cX10_address 10 = .ok (.ireturn, 1) := by decide +kernel
theorem dX10_address_11 : decode cX10_address 11 = .ok (.aload_n 0, 1) := by decide +kernel
theorem dX10_address_12 : decode cX10_address 12 = .ok (.iload_n 1, 1) := by decide +kernel
theorem dX10_address_13 : decode cX10_address 13 = .ok (.invokevirtual 393, 3) := by decide +kernel
theorem dX10_address_16 : decode cX10_address 16 = .ok (.istore_n 3, 1) := by decide +kernel
theorem dX10_address_17 : decode cX10_address 17 = .ok (.iload_n 3, 1) := by decide +kernel
theorem dX10_address_18 : decode cX10_address 18 = .ok (.ifCond .ge 5, 3) := by decide +kernel
theorem dX10_address_21 : decode cX10_address 21 = .ok (.iload_n 3, 1) := by decide +kernel
theorem dX10_address_22 : decode cX10_address 22 = .ok (.ireturn, 1) := by decide +kernel
theorem dX10_address_23 : decode cX10_address 23 = .ok (.aload_n 0, 1) := by decide +kernel
theorem dX10_address_24 : decode cX10_address 24 = .ok (.iload_n 1, 1) := by decide +kernel
theorem dX10_address_25 : decode cX10_address 25 = .ok (.invokevirtual 243, 3) := by decide +kernel
theorem dX10_address_28 : decode cX10_address 28 = .ok (.aload_n 0, 1) := by decide +kernel
theorem dX10_address_29 : decode cX10_address 29 = .ok (.getfield 75, 3) := by decide +kernel
theorem dX10_address_32 : decode cX10_address 32 = .ok (.iload_n 2, 1) := by decide +kernel
theorem dX10_address_33 : decode cX10_address 33 = .ok (.iaload, 1) := by decide +kernel
theorem dX10_address_34 : decode cX10_address 34 = .ok (.ireturn, 1) := by decide +kernel
theorem dX10_ways_0 : decode cX10_ways 0 = .ok (.aload_n 0, 1) := by decide +kernel
theorem dX10_ways_1 : decode cX10_ways 1 = .ok (.iconst 2, 1) := by decide +kernel
theorem dX10_ways_2 : decode cX10_ways 2 = .ok (.invokevirtual 393, 3) := by decide +kernel
theorem dX10_ways_5 : decode cX10_ways 5 = .ok (.istore_n 1, 1) := by decide +kernel
theorem dX10_ways_6 : decode cX10_ways 6 = .ok (.iload_n 1, 1) := by decide +kernel
theorem dX10_ways_7 : decode cX10_ways 7 = .ok (.ifCond .ge 6, 3) := by decide +kernel
theorem dX10_ways_10 : decode cX10_ways 10 = .ok (.iload_n 1, 1) := by decide +kernel
theorem dX10_ways_11 : decode cX10_ways 11 = .ok (.i2l, 1) := by decide +kernel
theorem dX10_ways_12 : decode cX10_ways 12 = .ok (.lreturn, 1) := by decide +kernel
theorem dX10_ways_13 : decode cX10_ways 13 = .ok (.aload_n 0, 1) := by decide +kernel
theorem dX10_ways_14 : decode cX10_ways 14 = .ok (.invokevirtual 385, 3) := by decide +kernel
theorem dX10_ways_17 : decode cX10_ways 17 = .ok (.aload_n 0, 1) := by decide +kernel
theorem dX10_ways_18 : decode cX10_ways 18 = .ok (.getfield 358, 3) := by decide +kernel
theorem dX10_ways_21 : decode cX10_ways 21 = .ok (.lreturn, 1) := by decide +kernel
theorem dX10_dearest_0 : decode cX10_dearest 0 = .ok (.aload_n 0, 1) := by decide +kernel
theorem dX10_dearest_1 : decode cX10_dearest 1 = .ok (.iconst 2, 1) := by decide +kernel
theorem dX10_dearest_2 : decode cX10_dearest 2 = .ok (.invokevirtual 393, 3) := by decide +kernel
theorem dX10_dearest_5 : decode cX10_dearest 5 = .ok (.istore_n 1, 1) := by decide +kernel
theorem dX10_dearest_6 : decode cX10_dearest 6 = .ok (.iload_n 1, 1) := by decide +kernel
theorem dX10_dearest_7 : decode cX10_dearest 7 = .ok (.ifCond .ge 5, 3) := by decide +kernel
theorem dX10_dearest_10 : decode cX10_dearest 10 = .ok (.iload_n 1, 1) := by decide +kernel
theorem dX10_dearest_11 : decode cX10_dearest 11 = .ok (.ireturn, 1) := by decide +kernel
theorem dX10_dearest_12 : decode cX10_dearest 12 = .ok (.aload_n 0, 1) := by decide +kernel
theorem dX10_dearest_13 : decode cX10_dearest 13 = .ok (.invokevirtual 385, 3) := by decide +kernel
theorem dX10_dearest_16 : decode cX10_dearest 16 = .ok (.aload_n 0, 1) := by decide +kernel
theorem dX10_dearest_17 : decode cX10_dearest 17 = .ok (.getfield 362, 3) := by decide +kernel
theorem dX10_dearest_20 : decode cX10_dearest 20 = .ok (.ireturn, 1) := by decide +kernel
theorem dX10_keeps_0 : decode cX10_keeps 0 = .ok (.iconst 0, 1) := by decide +kernel
theorem dX10_keeps_1 : decode cX10_keeps 1 = .ok (.istore_n 1, 1) := by decide +kernel
theorem dX10_keeps_2 : decode cX10_keeps 2 = .ok (.iload_n 1, 1) := by decide +kernel
theorem dX10_keeps_3 : decode cX10_keeps 3 = .ok (.bipush 20, 2) := by decide +kernel
theorem dX10_keeps_5 : decode cX10_keeps 5 = .ok (.if_icmp .ge 36, 3) := by decide +kernel
theorem dX10_keeps_8 : decode cX10_keeps 8 = .ok (.aload_n 0, 1) := by decide +kernel
theorem dX10_keeps_9 : decode cX10_keeps 9 = .ok (.getfield 16, 3) := by decide +kernel
theorem dX10_keeps_12 : decode cX10_keeps 12 = .ok (.bipush 20, 2) := by decide +kernel
theorem dX10_keeps_14 : decode cX10_keeps 14 = .ok (.aload_n 0, 1) := by decide +kernel
theorem dX10_keeps_15 : decode cX10_keeps 15 = .ok (.getfield 7, 3) := by decide +kernel
theorem dX10_keeps_18 : decode cX10_keeps 18 = .ok (.bipush 7, 2) := by decide +kernel
theorem dX10_keeps_20 : decode cX10_keeps 20 = .ok (.iaload, 1) := by decide +kernel
theorem dX10_keeps_21 : decode cX10_keeps 21 = .ok (.imul, 1) := by decide +kernel
theorem dX10_keeps_22 : decode cX10_keeps 22 = .ok (.iload_n 1, 1) := by decide +kernel
theorem dX10_keeps_23 : decode cX10_keeps 23 = .ok (.iadd, 1) := by decide +kernel
theorem dX10_keeps_24 : decode cX10_keeps 24 = .ok (.aload_n 0, 1) := by decide +kernel
theorem dX10_keeps_25 : decode cX10_keeps 25 = .ok (.getfield 7, 3) := by decide +kernel
theorem dX10_keeps_28 : decode cX10_keeps 28 = .ok (.sipush 149, 3) := by decide +kernel
theorem dX10_keeps_31 : decode cX10_keeps 31 = .ok (.iload_n 1, 1) := by decide +kernel
theorem dX10_keeps_32 : decode cX10_keeps 32 = .ok (.iadd, 1) := by decide +kernel
theorem dX10_keeps_33 : decode cX10_keeps 33 = .ok (.iaload, 1) := by decide +kernel
theorem dX10_keeps_34 : decode cX10_keeps 34 = .ok (.iastore, 1) := by decide +kernel
theorem dX10_keeps_35 : decode cX10_keeps 35 = .ok (.iinc 1 1, 3) := by decide +kernel
theorem dX10_keeps_38 : decode cX10_keeps 38 = .ok (.goto (-36), 3) := by decide +kernel
theorem dX10_keeps_41 : decode cX10_keeps 41 = .ok (.aload_n 0, 1) := by decide +kernel
theorem dX10_keeps_42 : decode cX10_keeps 42 = .ok (.getfield 7, 3) := by decide +kernel
theorem dX10_keeps_45 : decode cX10_keeps 45 = .ok (.bipush 7, 2) := by decide +kernel
theorem dX10_keeps_47 : decode cX10_keeps 47 = .ok (.dup2, 1) := by decide +kernel
theorem dX10_keeps_48 : decode cX10_keeps 48 = .ok (.iaload, 1) := by decide +kernel
theorem dX10_keeps_49 : decode cX10_keeps 49 = .ok (.iconst 1, 1) := by decide +kernel
theorem dX10_keeps_50 : decode cX10_keeps 50 = .ok (.iadd, 1) := by decide +kernel
theorem dX10_keeps_51 : decode cX10_keeps 51 = .ok (.iastore, 1) := by decide +kernel
theorem dX10_keeps_52 : decode cX10_keeps 52 = .ok (.return_, 1) := by decide +kernel
theorem dX10_goesBack_0 : decode cX10_goesBack 0 = .ok (.aload_n 0, 1) := by decide +kernel
theorem dX10_goesBack_1 : decode cX10_goesBack 1 = .ok (.getfield 7, 3) := by decide +kernel
theorem dX10_goesBack_4 : decode cX10_goesBack 4 = .ok (.bipush 7, 2) := by decide +kernel
theorem dX10_goesBack_6 : decode cX10_goesBack 6 = .ok (.iload_n 1, 1) := by decide +kernel
theorem dX10_goesBack_7 : decode cX10_goesBack 7 = .ok (.iastore, 1) := by decide +kernel
theorem dX10_goesBack_8 : decode cX10_goesBack 8 = .ok (.iconst 0, 1) := by decide +kernel
theorem dX10_goesBack_9 : decode cX10_goesBack 9 = .ok (.istore_n 2, 1) := by decide +kernel
theorem dX10_goesBack_10 : decode cX10_goesBack 10 = .ok (.iload_n 2, 1) := by decide +kernel
theorem dX10_goesBack_11 : decode cX10_goesBack 11 = .ok (.bipush 20, 2) := by decide +kernel
theorem dX10_goesBack_13 : decode cX10_goesBack 13 = .ok (.if_icmp .ge 30, 3) := by decide +kernel
theorem dX10_goesBack_16 : decode cX10_goesBack 16 = .ok (.aload_n 0, 1) := by decide +kernel
theorem dX10_goesBack_17 : decode cX10_goesBack 17 = .ok (.getfield 7, 3) := by decide +kernel
theorem dX10_goesBack_20 : decode cX10_goesBack 20 = .ok (.sipush 149, 3) := by decide +kernel
theorem dX10_goesBack_23 : decode cX10_goesBack 23 = .ok (.iload_n 2, 1) := by decide +kernel
theorem dX10_goesBack_24 : decode cX10_goesBack 24 = .ok (.iadd, 1) := by decide +kernel
theorem dX10_goesBack_25 : decode cX10_goesBack 25 = .ok (.aload_n 0, 1) := by decide +kernel
theorem dX10_goesBack_26 : decode cX10_goesBack 26 = .ok (.getfield 16, 3) := by decide +kernel
theorem dX10_goesBack_29 : decode cX10_goesBack 29 = .ok (.bipush 20, 2) := by decide +kernel
theorem dX10_goesBack_31 : decode cX10_goesBack 31 = .ok (.iload_n 1, 1) := by decide +kernel
theorem dX10_goesBack_32 : decode cX10_goesBack 32 = .ok (.imul, 1) := by decide +kernel
theorem dX10_goesBack_33 : decode cX10_goesBack 33 = .ok (.iload_n 2, 1) := by decide +kernel
theorem dX10_goesBack_34 : decode cX10_goesBack 34 = .ok (.iadd, 1) := by decide +kernel
theorem dX10_goesBack_35 : decode cX10_goesBack 35 = .ok (.iaload, 1) := by decide +kernel
theorem dX10_goesBack_36 : decode cX10_goesBack 36 = .ok (.iastore, 1) := by decide +kernel
theorem dX10_goesBack_37 : decode cX10_goesBack 37 = .ok (.iinc 2 1, 3) := by decide +kernel
theorem dX10_goesBack_40 : decode cX10_goesBack 40 = .ok (.goto (-30), 3) := by decide +kernel
theorem dX10_goesBack_43 : decode cX10_goesBack 43 = .ok (.return_, 1) := by decide +kernel
theorem dX10_put_0 : decode cX10_put 0 = .ok (.aload_n 0, 1) := by decide +kernel
theorem dX10_put_1 : decode cX10_put 1 = .ok (.iload_n 1, 1) := by decide +kernel
theorem dX10_put_2 : decode cX10_put 2 = .ok (.iload_n 2, 1) := by decide +kernel
theorem dX10_put_3 : decode cX10_put 3 = .ok (.invokevirtual 327, 3) := by decide +kernel
theorem dX10_put_6 : decode cX10_put 6 = .ok (.istore_n 3, 1) := by decide +kernel
theorem dX10_put_7 : decode cX10_put 7 = .ok (.iload_n 3, 1) := by decide +kernel
theorem dX10_put_8 : decode cX10_put 8 = .ok (.ifCond .lt 15, 3) := by decide +kernel
theorem dX10_put_11 : decode cX10_put 11 = .ok (.aload_n 0, 1) := by decide +kernel
theorem dX10_put_12 : decode cX10_put 12 = .ok (.getfield 7, 3) := by decide +kernel
theorem dX10_put_15 : decode cX10_put 15 = .ok (.bipush 7, 2) := by decide +kernel
theorem dX10_put_17 : decode cX10_put 17 = .ok (.iaload, 1) := by decide +kernel
theorem dX10_put_18 : decode cX10_put 18 = .ok (.bipush 20, 2) := by decide +kernel
theorem dX10_put_20 : decode cX10_put 20 = .ok (.if_icmp .ne 14, 3) := by decide +kernel
theorem dX10_put_23 : decode cX10_put 23 = .ok (.iload_n 3, 1) := by decide +kernel
theorem dX10_put_24 : decode cX10_put 24 = .ok (.ifCond .ge 7, 3) := by decide +kernel
theorem dX10_put_27 : decode cX10_put 27 = .ok (.iload_n 3, 1) := by decide +kernel
theorem dX10_put_28 : decode cX10_put 28 = .ok (.goto 5, 3) := by decide +kernel
theorem dX10_put_31 : decode cX10_put 31 = .ok (.bipush (-5), 2) := by decide +kernel
theorem dX10_put_33 : decode cX10_put 33 = .ok (.ireturn, 1) := by decide +kernel
theorem dX10_put_34 : decode cX10_put 34 = .ok (.aload_n 0, 1) := by decide +kernel
theorem dX10_put_35 : decode cX10_put 35 = .ok (.invokevirtual 396, 3) := by decide +kernel
theorem dX10_put_38 : decode cX10_put 38 = .ok (.aload_n 0, 1) := by decide +kernel
theorem dX10_put_39 : decode cX10_put 39 = .ok (.getfield 7, 3) := by decide +kernel
theorem dX10_put_42 : decode cX10_put 42 = .ok (.sipush 149, 3) := by decide +kernel
theorem dX10_put_45 : decode cX10_put 45 = .ok (.iload_n 1, 1) := by decide +kernel
theorem dX10_put_46 : decode cX10_put 46 = .ok (.iadd, 1) := by decide +kernel
theorem dX10_put_47 : decode cX10_put 47 = .ok (.iload_n 2, 1) := by decide +kernel
theorem dX10_put_48 : decode cX10_put 48 = .ok (.iastore, 1) := by decide +kernel
theorem dX10_put_49 : decode cX10_put 49 = .ok (.aload_n 0, 1) := by decide +kernel
theorem dX10_put_50 : decode cX10_put 50 = .ok (.invokevirtual 313, 3) := by decide +kernel
theorem dX10_put_53 : decode cX10_put 53 = .ok (.ireturn, 1) := by decide +kernel
theorem dX10_swap_0 : decode cX10_swap 0 = .ok (.aload_n 0, 1) := by decide +kernel
theorem dX10_swap_1 : decode cX10_swap 1 = .ok (.iload_n 1, 1) := by decide +kernel
theorem dX10_swap_2 : decode cX10_swap 2 = .ok (.iload_n 2, 1) := by decide +kernel
theorem dX10_swap_3 : decode cX10_swap 3 = .ok (.invokevirtual 333, 3) := by decide +kernel
theorem dX10_swap_6 : decode cX10_swap 6 = .ok (.istore_n 3, 1) := by decide +kernel
theorem dX10_swap_7 : decode cX10_swap 7 = .ok (.iload_n 3, 1) := by decide +kernel
theorem dX10_swap_8 : decode cX10_swap 8 = .ok (.ifCond .lt 15, 3) := by decide +kernel
theorem dX10_swap_11 : decode cX10_swap 11 = .ok (.aload_n 0, 1) := by decide +kernel
theorem dX10_swap_12 : decode cX10_swap 12 = .ok (.getfield 7, 3) := by decide +kernel
theorem dX10_swap_15 : decode cX10_swap 15 = .ok (.bipush 7, 2) := by decide +kernel
theorem dX10_swap_17 : decode cX10_swap 17 = .ok (.iaload, 1) := by decide +kernel
theorem dX10_swap_18 : decode cX10_swap 18 = .ok (.bipush 20, 2) := by decide +kernel
theorem dX10_swap_20 : decode cX10_swap 20 = .ok (.if_icmp .ne 14, 3) := by decide +kernel
theorem dX10_swap_23 : decode cX10_swap 23 = .ok (.iload_n 3, 1) := by decide +kernel
theorem dX10_swap_24 : decode cX10_swap 24 = .ok (.ifCond .ge 7, 3) := by decide +kernel
theorem dX10_swap_27 : decode cX10_swap 27 = .ok (.iload_n 3, 1) := by decide +kernel
theorem dX10_swap_28 : decode cX10_swap 28 = .ok (.goto 5, 3) := by decide +kernel
theorem dX10_swap_31 : decode cX10_swap 31 = .ok (.bipush (-5), 2) := by decide +kernel
theorem dX10_swap_33 : decode cX10_swap 33 = .ok (.ireturn, 1) := by decide +kernel
theorem dX10_swap_34 : decode cX10_swap 34 = .ok (.aload_n 0, 1) := by decide +kernel
theorem dX10_swap_35 : decode cX10_swap 35 = .ok (.invokevirtual 396, 3) := by decide +kernel
theorem dX10_swap_38 : decode cX10_swap 38 = .ok (.aload_n 0, 1) := by decide +kernel
theorem dX10_swap_39 : decode cX10_swap 39 = .ok (.getfield 7, 3) := by decide +kernel
theorem dX10_swap_42 : decode cX10_swap 42 = .ok (.sipush 149, 3) := by decide +kernel
theorem dX10_swap_45 : decode cX10_swap 45 = .ok (.iload_n 1, 1) := by decide +kernel
theorem dX10_swap_46 : decode cX10_swap 46 = .ok (.iadd, 1) := by decide +kernel
theorem dX10_swap_47 : decode cX10_swap 47 = .ok (.iaload, 1) := by decide +kernel
theorem dX10_swap_48 : decode cX10_swap 48 = .ok (.istore 4, 2) := by decide +kernel
theorem dX10_swap_50 : decode cX10_swap 50 = .ok (.aload_n 0, 1) := by decide +kernel
theorem dX10_swap_51 : decode cX10_swap 51 = .ok (.getfield 7, 3) := by decide +kernel
theorem dX10_swap_54 : decode cX10_swap 54 = .ok (.sipush 149, 3) := by decide +kernel
theorem dX10_swap_57 : decode cX10_swap 57 = .ok (.iload_n 1, 1) := by decide +kernel
theorem dX10_swap_58 : decode cX10_swap 58 = .ok (.iadd, 1) := by decide +kernel
theorem dX10_swap_59 : decode cX10_swap 59 = .ok (.aload_n 0, 1) := by decide +kernel
theorem dX10_swap_60 : decode cX10_swap 60 = .ok (.getfield 7, 3) := by decide +kernel
theorem dX10_swap_63 : decode cX10_swap 63 = .ok (.sipush 149, 3) := by decide +kernel
theorem dX10_swap_66 : decode cX10_swap 66 = .ok (.iload_n 2, 1) := by decide +kernel
theorem dX10_swap_67 : decode cX10_swap 67 = .ok (.iadd, 1) := by decide +kernel
theorem dX10_swap_68 : decode cX10_swap 68 = .ok (.iaload, 1) := by decide +kernel
theorem dX10_swap_69 : decode cX10_swap 69 = .ok (.iastore, 1) := by decide +kernel
theorem dX10_swap_70 : decode cX10_swap 70 = .ok (.aload_n 0, 1) := by decide +kernel
theorem dX10_swap_71 : decode cX10_swap 71 = .ok (.getfield 7, 3) := by decide +kernel
theorem dX10_swap_74 : decode cX10_swap 74 = .ok (.sipush 149, 3) := by decide +kernel
theorem dX10_swap_77 : decode cX10_swap 77 = .ok (.iload_n 2, 1) := by decide +kernel
theorem dX10_swap_78 : decode cX10_swap 78 = .ok (.iadd, 1) := by decide +kernel
theorem dX10_swap_79 : decode cX10_swap 79 = .ok (.iload 4, 2) := by decide +kernel
theorem dX10_swap_81 : decode cX10_swap 81 = .ok (.iastore, 1) := by decide +kernel
theorem dX10_swap_82 : decode cX10_swap 82 = .ok (.aload_n 0, 1) := by decide +kernel
theorem dX10_swap_83 : decode cX10_swap 83 = .ok (.invokevirtual 313, 3) := by decide +kernel
theorem dX10_swap_86 : decode cX10_swap 86 = .ok (.ireturn, 1) := by decide +kernel
theorem dX10_lays_0 : decode cX10_lays 0 = .ok (.aload_n 0, 1) := by decide +kernel
theorem dX10_lays_1 : decode cX10_lays 1 = .ok (.iload_n 1, 1) := by decide +kernel
theorem dX10_lays_2 : decode cX10_lays 2 = .ok (.invokevirtual 393, 3) := by decide +kernel
theorem dX10_lays_5 : decode cX10_lays 5 = .ok (.istore_n 2, 1) := by decide +kernel
theorem dX10_lays_6 : decode cX10_lays 6 = .ok (.iload_n 2, 1) := by decide +kernel
theorem dX10_lays_7 : decode cX10_lays 7 = .ok (.bipush (-2), 2) := by decide +kernel
theorem dX10_lays_9 : decode cX10_lays 9 = .ok (.if_icmp .eq 37, 3) := by decide +kernel
theorem dX10_lays_12 : decode cX10_lays 12 = .ok (.iload_n 2, 1) := by decide +kernel
theorem dX10_lays_13 : decode cX10_lays 13 = .ok (.ifCond .ne 15, 3) := by decide +kernel
theorem dX10_lays_16 : decode cX10_lays 16 = .ok (.aload_n 0, 1) := by decide +kernel
theorem dX10_lays_17 : decode cX10_lays 17 = .ok (.getfield 7, 3) := by decide +kernel
theorem dX10_lays_20 : decode cX10_lays 20 = .ok (.bipush 7, 2) := by decide +kernel
theorem dX10_lays_22 : decode cX10_lays 22 = .ok (.iaload, 1) := by decide +kernel
theorem dX10_lays_23 : decode cX10_lays 23 = .ok (.bipush 20, 2) := by decide +kernel
theorem dX10_lays_25 : decode cX10_lays 25 = .ok (.if_icmp .eq 21, 3) := by decide +kernel
theorem dX10_lays_28 : decode cX10_lays 28 = .ok (.iload_n 2, 1) := by decide +kernel
theorem dX10_lays_29 : decode cX10_lays 29 = .ok (.bipush (-3), 2) := by decide +kernel
theorem dX10_lays_31 : decode cX10_lays 31 = .ok (.if_icmp .ne 28, 3) := by decide +kernel
theorem dX10_lays_34 : decode cX10_lays 34 = .ok (.aload_n 0, 1) := by decide +kernel
theorem dX10_lays_35 : decode cX10_lays 35 = .ok (.getfield 7, 3) := by decide +kernel
theorem dX10_lays_38 : decode cX10_lays 38 = .ok (.bipush 7, 2) := by decide +kernel
theorem dX10_lays_40 : decode cX10_lays 40 = .ok (.iaload, 1) := by decide +kernel
theorem dX10_lays_41 : decode cX10_lays 41 = .ok (.bipush 20, 2) := by decide +kernel
theorem dX10_lays_43 : decode cX10_lays 43 = .ok (.if_icmp .ne 16, 3) := by decide +kernel
theorem dX10_lays_46 : decode cX10_lays 46 = .ok (.iload_n 2, 1) := by decide +kernel
theorem dX10_lays_47 : decode cX10_lays 47 = .ok (.bipush (-2), 2) := by decide +kernel
theorem dX10_lays_49 : decode cX10_lays 49 = .ok (.if_icmp .ne 7, 3) := by decide +kernel
theorem dX10_lays_52 : decode cX10_lays 52 = .ok (.iload_n 2, 1) := by decide +kernel
theorem dX10_lays_53 : decode cX10_lays 53 = .ok (.goto 5, 3) := by decide +kernel
theorem dX10_lays_56 : decode cX10_lays 56 = .ok (.bipush (-5), 2) := by decide +kernel
theorem dX10_lays_58 : decode cX10_lays 58 = .ok (.ireturn, 1) := by decide +kernel
theorem dX10_lays_59 : decode cX10_lays 59 = .ok (.iload_n 2, 1) := by decide +kernel
theorem dX10_lays_60 : decode cX10_lays 60 = .ok (.ifCond .ge 5, 3) := by decide +kernel
theorem dX10_lays_63 : decode cX10_lays 63 = .ok (.iload_n 2, 1) := by decide +kernel
theorem dX10_lays_64 : decode cX10_lays 64 = .ok (.ireturn, 1) := by decide +kernel
theorem dX10_lays_65 : decode cX10_lays 65 = .ok (.aload_n 0, 1) := by decide +kernel
theorem dX10_lays_66 : decode cX10_lays 66 = .ok (.iload_n 1, 1) := by decide +kernel
theorem dX10_lays_67 : decode cX10_lays 67 = .ok (.invokevirtual 243, 3) := by decide +kernel
theorem dX10_lays_70 : decode cX10_lays 70 = .ok (.aload_n 0, 1) := by decide +kernel
theorem dX10_lays_71 : decode cX10_lays 71 = .ok (.invokevirtual 396, 3) := by decide +kernel
theorem dX10_lays_74 : decode cX10_lays 74 = .ok (.aload_n 0, 1) := by decide +kernel
theorem dX10_lays_75 : decode cX10_lays 75 = .ok (.invokevirtual 246, 3) := by decide +kernel
theorem dX10_lays_78 : decode cX10_lays 78 = .ok (.aload_n 0, 1) := by decide +kernel
theorem dX10_lays_79 : decode cX10_lays 79 = .ok (.invokevirtual 313, 3) := by decide +kernel
theorem dX10_lays_82 : decode cX10_lays 82 = .ok (.ireturn, 1) := by decide +kernel
theorem dX10_undo_0 : decode cX10_undo 0 = .ok (.aload_n 0, 1) := by decide +kernel
theorem dX10_undo_1 : decode cX10_undo 1 = .ok (.getfield 7, 3) := by decide +kernel
theorem dX10_undo_4 : decode cX10_undo 4 = .ok (.bipush 6, 2) := by decide +kernel
theorem dX10_undo_6 : decode cX10_undo 6 = .ok (.iaload, 1) := by decide +kernel
theorem dX10_undo_7 : decode cX10_undo 7 = .ok (.ifCond .ne 6, 3) := by decide +kernel
theorem dX10_undo_10 : decode cX10_undo 10 = .ok (.bipush (-2), 2) := by decide +kernel
theorem dX10_undo_12 : decode cX10_undo 12 = .ok (.ireturn, 1) := by decide +kernel
theorem dX10_undo_13 : decode cX10_undo 13 = .ok (.aload_n 0, 1) := by decide +kernel
theorem dX10_undo_14 : decode cX10_undo 14 = .ok (.getfield 7, 3) := by decide +kernel
theorem dX10_undo_17 : decode cX10_undo 17 = .ok (.bipush 7, 2) := by decide +kernel
theorem dX10_undo_19 : decode cX10_undo 19 = .ok (.iaload, 1) := by decide +kernel
theorem dX10_undo_20 : decode cX10_undo 20 = .ok (.ifCond .ne 6, 3) := by decide +kernel
theorem dX10_undo_23 : decode cX10_undo 23 = .ok (.bipush (-5), 2) := by decide +kernel
theorem dX10_undo_25 : decode cX10_undo 25 = .ok (.ireturn, 1) := by decide +kernel
theorem dX10_undo_26 : decode cX10_undo 26 = .ok (.aload_n 0, 1) := by decide +kernel
theorem dX10_undo_27 : decode cX10_undo 27 = .ok (.aload_n 0, 1) := by decide +kernel
theorem dX10_undo_28 : decode cX10_undo 28 = .ok (.getfield 7, 3) := by decide +kernel
theorem dX10_undo_31 : decode cX10_undo 31 = .ok (.bipush 7, 2) := by decide +kernel
theorem dX10_undo_33 : decode cX10_undo 33 = .ok (.iaload, 1) := by decide +kernel
theorem dX10_undo_34 : decode cX10_undo 34 = .ok (.iconst 1, 1) := by decide +kernel
theorem dX10_undo_35 : decode cX10_undo 35 = .ok (.isub, 1) := by decide +kernel
theorem dX10_undo_36 : decode cX10_undo 36 = .ok (.invokevirtual 399, 3) := by decide +kernel
theorem dX10_undo_39 : decode cX10_undo 39 = .ok (.aload_n 0, 1) := by decide +kernel
theorem dX10_undo_40 : decode cX10_undo 40 = .ok (.getfield 7, 3) := by decide +kernel
theorem dX10_undo_43 : decode cX10_undo 43 = .ok (.bipush 7, 2) := by decide +kernel
theorem dX10_undo_45 : decode cX10_undo 45 = .ok (.iaload, 1) := by decide +kernel
theorem dX10_undo_46 : decode cX10_undo 46 = .ok (.ireturn, 1) := by decide +kernel
theorem dX10_anew_0 : decode cX10_anew 0 = .ok (.aload_n 0, 1) := by decide +kernel
theorem dX10_anew_1 : decode cX10_anew 1 = .ok (.getfield 7, 3) := by decide +kernel
theorem dX10_anew_4 : decode cX10_anew 4 = .ok (.bipush 6, 2) := by decide +kernel
theorem dX10_anew_6 : decode cX10_anew 6 = .ok (.iaload, 1) := by decide +kernel
theorem dX10_anew_7 : decode cX10_anew 7 = .ok (.ifCond .ne 6, 3) := by decide +kernel
theorem dX10_anew_10 : decode cX10_anew 10 = .ok (.bipush (-2), 2) := by decide +kernel
theorem dX10_anew_12 : decode cX10_anew 12 = .ok (.ireturn, 1) := by decide +kernel
theorem dX10_anew_13 : decode cX10_anew 13 = .ok (.aload_n 0, 1) := by decide +kernel
theorem dX10_anew_14 : decode cX10_anew 14 = .ok (.getfield 7, 3) := by decide +kernel
theorem dX10_anew_17 : decode cX10_anew 17 = .ok (.bipush 7, 2) := by decide +kernel
theorem dX10_anew_19 : decode cX10_anew 19 = .ok (.iaload, 1) := by decide +kernel
theorem dX10_anew_20 : decode cX10_anew 20 = .ok (.istore_n 1, 1) := by decide +kernel
theorem dX10_anew_21 : decode cX10_anew 21 = .ok (.iload_n 1, 1) := by decide +kernel
theorem dX10_anew_22 : decode cX10_anew 22 = .ok (.ifCond .le 8, 3) := by decide +kernel
theorem dX10_anew_25 : decode cX10_anew 25 = .ok (.aload_n 0, 1) := by decide +kernel
theorem dX10_anew_26 : decode cX10_anew 26 = .ok (.iconst 0, 1) := by decide +kernel
theorem dX10_anew_27 : decode cX10_anew 27 = .ok (.invokevirtual 399, 3) := by decide +kernel
theorem dX10_anew_30 : decode cX10_anew 30 = .ok (.iload_n 1, 1) := by decide +kernel
theorem dX10_anew_31 : decode cX10_anew 31 = .ok (.ireturn, 1) := by decide +kernel
theorem dJ9_floorMod_7cf53_0 : decode cJ9_floorMod_7cf53 0 = .ok (.iload_n 0, 1) := by decide +kernel
theorem dJ9_floorMod_7cf53_1 : decode cJ9_floorMod_7cf53 1 = .ok (.iload_n 1, 1) := by decide +kernel
theorem dJ9_floorMod_7cf53_2 : decode cJ9_floorMod_7cf53 2 = .ok (.irem, 1) := by decide +kernel
theorem dJ9_floorMod_7cf53_3 : decode cJ9_floorMod_7cf53 3 = .ok (.istore_n 2, 1) := by decide +kernel
theorem dJ9_floorMod_7cf53_4 : decode cJ9_floorMod_7cf53 4 = .ok (.iload_n 0, 1) := by decide +kernel
theorem dJ9_floorMod_7cf53_5 : decode cJ9_floorMod_7cf53 5 = .ok (.iload_n 1, 1) := by decide +kernel
theorem dJ9_floorMod_7cf53_6 : decode cJ9_floorMod_7cf53 6 = .ok (.ixor, 1) := by decide +kernel
theorem dJ9_floorMod_7cf53_7 : decode cJ9_floorMod_7cf53 7 = .ok (.ifCond .ge 11, 3) := by decide +kernel
theorem dJ9_floorMod_7cf53_10 : decode cJ9_floorMod_7cf53 10 = .ok (.iload_n 2, 1) := by decide +kernel
theorem dJ9_floorMod_7cf53_11 : decode cJ9_floorMod_7cf53 11 = .ok (.ifCond .eq 7, 3) := by decide +kernel
theorem dJ9_floorMod_7cf53_14 : decode cJ9_floorMod_7cf53 14 = .ok (.iload_n 2, 1) := by decide +kernel
theorem dJ9_floorMod_7cf53_15 : decode cJ9_floorMod_7cf53 15 = .ok (.iload_n 1, 1) := by decide +kernel
theorem dJ9_floorMod_7cf53_16 : decode cJ9_floorMod_7cf53 16 = .ok (.iadd, 1) := by decide +kernel
theorem dJ9_floorMod_7cf53_17 : decode cJ9_floorMod_7cf53 17 = .ok (.ireturn, 1) := by decide +kernel
theorem dJ9_floorMod_7cf53_18 : decode cJ9_floorMod_7cf53 18 = .ok (.iload_n 2, 1) := by decide +kernel
theorem dJ9_floorMod_7cf53_19 : decode cJ9_floorMod_7cf53 19 = .ok (.ireturn, 1) := by decide +kernel
theorem dJ9_max_7cf53_0 : decode cJ9_max_7cf53 0 = .ok (.iload_n 0, 1) := by decide +kernel
theorem dJ9_max_7cf53_1 : decode cJ9_max_7cf53 1 = .ok (.iload_n 1, 1) := by decide +kernel
theorem dJ9_max_7cf53_2 : decode cJ9_max_7cf53 2 = .ok (.if_icmp .lt 7, 3) := by decide +kernel
theorem dJ9_max_7cf53_5 : decode cJ9_max_7cf53 5 = .ok (.iload_n 0, 1) := by decide +kernel
theorem dJ9_max_7cf53_6 : decode cJ9_max_7cf53 6 = .ok (.goto 4, 3) := by decide +kernel
theorem dJ9_max_7cf53_9 : decode cJ9_max_7cf53 9 = .ok (.iload_n 1, 1) := by decide +kernel
theorem dJ9_max_7cf53_10 : decode cJ9_max_7cf53 10 = .ok (.ireturn, 1) := by decide +kernel
theorem dJ9_min_7cf53_0 : decode cJ9_min_7cf53 0 = .ok (.iload_n 0, 1) := by decide +kernel
theorem dJ9_min_7cf53_1 : decode cJ9_min_7cf53 1 = .ok (.iload_n 1, 1) := by decide +kernel
theorem dJ9_min_7cf53_2 : decode cJ9_min_7cf53 2 = .ok (.if_icmp .gt 7, 3) := by decide +kernel
theorem dJ9_min_7cf53_5 : decode cJ9_min_7cf53 5 = .ok (.iload_n 0, 1) := by decide +kernel
theorem dJ9_min_7cf53_6 : decode cJ9_min_7cf53 6 = .ok (.goto 4, 3) := by decide +kernel
theorem dJ9_min_7cf53_9 : decode cJ9_min_7cf53 9 = .ok (.iload_n 1, 1) := by decide +kernel
theorem dJ9_min_7cf53_10 : decode cJ9_min_7cf53 10 = .ok (.ireturn, 1) := by decide +kernel
theorem dJ0_length_8abf5_0 : decode cJ0_length_8abf5 0 = .ok (.aload_n 0, 1) := by decide +kernel
theorem dJ0_length_8abf5_1 : decode cJ0_length_8abf5 1 = .ok (.getfield 9, 3) := by decide +kernel
theorem dJ0_length_8abf5_4 : decode cJ0_length_8abf5 4 = .ok (.arraylength, 1) := by decide +kernel
theorem dJ0_length_8abf5_5 : decode cJ0_length_8abf5 5 = .ok (.aload_n 0, 1) := by decide +kernel
theorem dJ0_length_8abf5_6 : decode cJ0_length_8abf5 6 = .ok (.invokevirtual 335, 3) := by decide +kernel
theorem dJ0_length_8abf5_9 : decode cJ0_length_8abf5 9 = .ok (.ishr, 1) := by decide +kernel
theorem dJ0_length_8abf5_10 : decode cJ0_length_8abf5 10 = .ok (.ireturn, 1) := by decide +kernel
theorem dJ0_charAt_5068e_0 : decode cJ0_charAt_5068e 0 = .ok (.aload_n 0, 1) := by decide +kernel
theorem dJ0_charAt_5068e_1 : decode cJ0_charAt_5068e 1 = .ok (.invokevirtual 492, 3) := by decide +kernel
theorem dJ0_charAt_5068e_4 : decode cJ0_charAt_5068e 4 = .ok (.ifCond .eq 12, 3) := by decide +kernel
theorem dJ0_charAt_5068e_7 : decode cJ0_charAt_5068e 7 = .ok (.aload_n 0, 1) := by decide +kernel
theorem dJ0_charAt_5068e_8 : decode cJ0_charAt_5068e 8 = .ok (.getfield 9, 3) := by decide +kernel
theorem dJ0_charAt_5068e_11 : decode cJ0_charAt_5068e 11 = .ok (.iload_n 1, 1) := by decide +kernel
theorem dJ0_charAt_5068e_12 : decode cJ0_charAt_5068e 12 = .ok (.invokestatic 495, 3) := by decide +kernel
theorem dJ0_charAt_5068e_15 : decode cJ0_charAt_5068e 15 = .ok (.ireturn, 1) := by decide +kernel
theorem dJ0_charAt_5068e_16 : decode cJ0_charAt_5068e 16 = .ok (.aload_n 0, 1) := by decide +kernel
theorem dJ0_charAt_5068e_17 : decode cJ0_charAt_5068e 17 = .ok (.getfield 9, 3) := by decide +kernel
theorem dJ0_charAt_5068e_20 : decode cJ0_charAt_5068e 20 = .ok (.iload_n 1, 1) := by decide +kernel
theorem dJ0_charAt_5068e_21 : decode cJ0_charAt_5068e 21 = .ok (.invokestatic 498, 3) := by decide +kernel
theorem dJ0_charAt_5068e_24 : decode cJ0_charAt_5068e 24 = .ok (.ireturn, 1) := by decide +kernel
theorem dJ0_coder_7d493_0 : decode cJ0_coder_7d493 0 = .ok (.getstatic 38, 3) := by decide +kernel
theorem dJ0_coder_7d493_3 : decode cJ0_coder_7d493 3 = .ok (.ifCond .eq 10, 3) := by decide +kernel
theorem dJ0_coder_7d493_6 : decode cJ0_coder_7d493 6 = .ok (.aload_n 0, 1) := by decide +kernel
theorem dJ0_coder_7d493_7 : decode cJ0_coder_7d493 7 = .ok (.getfield 15, 3) := by decide +kernel
theorem dJ0_coder_7d493_10 : decode cJ0_coder_7d493 10 = .ok (.goto 4, 3) := by decide +kernel
theorem dJ0_coder_7d493_13 : decode cJ0_coder_7d493 13 = .ok (.iconst 1, 1) := by decide +kernel
theorem dJ0_coder_7d493_14 : decode cJ0_coder_7d493 14 = .ok (.ireturn, 1) := by decide +kernel
theorem dJ0_isLatin1_aae02_0 : decode cJ0_isLatin1_aae02 0 = .ok (.getstatic 38, 3) := by decide +kernel
theorem dJ0_isLatin1_aae02_3 : decode cJ0_isLatin1_aae02 3 = .ok (.ifCond .eq 14, 3) := by decide +kernel
theorem dJ0_isLatin1_aae02_6 : decode cJ0_isLatin1_aae02 6 = .ok (.aload_n 0, 1) := by decide +kernel
theorem dJ0_isLatin1_aae02_7 : decode cJ0_isLatin1_aae02 7 = .ok (.getfield 15, 3) := by decide +kernel
theorem dJ0_isLatin1_aae02_10 : decode cJ0_isLatin1_aae02 10 = .ok (.ifCond .ne 7, 3) := by decide +kernel
theorem dJ0_isLatin1_aae02_13 : decode cJ0_isLatin1_aae02 13 = .ok (.iconst 1, 1) := by decide +kernel
theorem dJ0_isLatin1_aae02_14 : decode cJ0_isLatin1_aae02 14 = .ok (.goto 4, 3) := by decide +kernel
theorem dJ0_isLatin1_aae02_17 : decode cJ0_isLatin1_aae02 17 = .ok (.iconst 0, 1) := by decide +kernel
theorem dJ0_isLatin1_aae02_18 : decode cJ0_isLatin1_aae02 18 = .ok (.ireturn, 1) := by decide +kernel
theorem dJ0_checkIndex_df160_0 : decode cJ0_checkIndex_df160 0 = .ok (.iload_n 0, 1) := by decide +kernel
theorem dJ0_checkIndex_df160_1 : decode cJ0_checkIndex_df160 1 = .ok (.iload_n 1, 1) := by decide +kernel
theorem dJ0_checkIndex_df160_2 : decode cJ0_checkIndex_df160 2 = .ok (.getstatic 1053, 3) := by decide +kernel
theorem dJ0_checkIndex_df160_5 : decode cJ0_checkIndex_df160 5 = .ok (.invokestatic 1059, 3) := by decide +kernel
theorem dJ0_checkIndex_df160_8 : decode cJ0_checkIndex_df160 8 = .ok (.pop, 1) := by decide +kernel
theorem dJ0_checkIndex_df160_9 : decode cJ0_checkIndex_df160 9 = .ok (.return_, 1) := by decide +kernel
theorem dJ1_charAt_3b067_0 : decode cJ1_charAt_3b067 0 = .ok (.iload_n 1, 1) := by decide +kernel
theorem dJ1_charAt_3b067_1 : decode cJ1_charAt_3b067 1 = .ok (.aload_n 0, 1) := by decide +kernel
theorem dJ1_charAt_3b067_2 : decode cJ1_charAt_3b067 2 = .ok (.arraylength, 1) := by decide +kernel
theorem dJ1_charAt_3b067_3 : decode cJ1_charAt_3b067 3 = .ok (.invokestatic 9, 3) := by decide +kernel
theorem dJ1_charAt_3b067_6 : decode cJ1_charAt_3b067 6 = .ok (.aload_n 0, 1) := by decide +kernel
theorem dJ1_charAt_3b067_7 : decode cJ1_charAt_3b067 7 = .ok (.iload_n 1, 1) := by decide +kernel
theorem dJ1_charAt_3b067_8 : decode cJ1_charAt_3b067 8 = .ok (.baload, 1) := by decide +kernel
theorem dJ1_charAt_3b067_9 : decode cJ1_charAt_3b067 9 = .ok (.sipush 255, 3) := by decide +kernel
theorem dJ1_charAt_3b067_12 : decode cJ1_charAt_3b067 12 = .ok (.iand, 1) := by decide +kernel
theorem dJ1_charAt_3b067_13 : decode cJ1_charAt_3b067 13 = .ok (.i2c, 1) := by decide +kernel
theorem dJ1_charAt_3b067_14 : decode cJ1_charAt_3b067 14 = .ok (.ireturn, 1) := by decide +kernel
theorem dJ2_getChar_3b067_0 : decode cJ2_getChar_3b067 0 = .ok (.getstatic 44, 3) := by decide +kernel
theorem dJ2_getChar_3b067_3 : decode cJ2_getChar_3b067 3 = .ok (.ifCond .ne 25, 3) := by decide +kernel
theorem dJ2_getChar_3b067_6 : decode cJ2_getChar_3b067 6 = .ok (.iload_n 1, 1) := by decide +kernel
theorem dJ2_getChar_3b067_7 : decode cJ2_getChar_3b067 7 = .ok (.ifCond .lt 11, 3) := by decide +kernel
theorem dJ2_getChar_3b067_10 : decode cJ2_getChar_3b067 10 = .ok (.iload_n 1, 1) := by decide +kernel
theorem dJ2_getChar_3b067_11 : decode cJ2_getChar_3b067 11 = .ok (.aload_n 0, 1) := by decide +kernel
theorem dJ2_getChar_3b067_12 : decode cJ2_getChar_3b067 12 = .ok (.invokestatic 48, 3) := by decide +kernel
theorem dJ2_getChar_3b067_15 : decode cJ2_getChar_3b067 15 = .ok (.if_icmp .lt 13, 3) := by decide +kernel
theorem dJ2_getChar_3b067_18 : decode cJ2_getChar_3b067 18 = .ok (.new 52, 3) := by decide +kernel
theorem dJ2_getChar_3b067_21 : decode cJ2_getChar_3b067 21 = .ok (.dup, 1) := by decide +kernel
theorem dJ2_getChar_3b067_22 : decode cJ2_getChar_3b067 22 = .ok (.ldc 54, 2) := by decide +kernel
theorem dJ2_getChar_3b067_24 : decode cJ2_getChar_3b067 24 = .ok (.invokespecial 56, 3) := by decide +kernel
theorem dJ2_getChar_3b067_27 : decode cJ2_getChar_3b067 27 = .ok (.athrow, 1) := by decide +kernel
theorem dJ2_getChar_3b067_28 : decode cJ2_getChar_3b067 28 = .ok (.iload_n 1, 1) := by decide +kernel
theorem dJ2_getChar_3b067_29 : decode cJ2_getChar_3b067 29 = .ok (.iconst 1, 1) := by decide +kernel
theorem dJ2_getChar_3b067_30 : decode cJ2_getChar_3b067 30 = .ok (.ishl, 1) := by decide +kernel
theorem dJ2_getChar_3b067_31 : decode cJ2_getChar_3b067 31 = .ok (.istore_n 1, 1) := by decide +kernel
theorem dJ2_getChar_3b067_32 : decode cJ2_getChar_3b067 32 = .ok (.aload_n 0, 1) := by decide +kernel
theorem dJ2_getChar_3b067_33 : decode cJ2_getChar_3b067 33 = .ok (.iload_n 1, 1) := by decide +kernel
theorem dJ2_getChar_3b067_34 : decode cJ2_getChar_3b067 34 = .ok (.iinc 1 1, 3) := by decide +kernel
theorem dJ2_getChar_3b067_37 : decode cJ2_getChar_3b067 37 = .ok (.baload, 1) := by decide +kernel
theorem dJ2_getChar_3b067_38 : decode cJ2_getChar_3b067 38 = .ok (.sipush 255, 3) := by decide +kernel
theorem dJ2_getChar_3b067_41 : decode cJ2_getChar_3b067 41 = .ok (.iand, 1) := by decide +kernel
theorem dJ2_getChar_3b067_42 : decode cJ2_getChar_3b067 42 = .ok (.getstatic 59, 3) := by decide +kernel
theorem dJ2_getChar_3b067_45 : decode cJ2_getChar_3b067 45 = .ok (.ishl, 1) := by decide +kernel
theorem dJ2_getChar_3b067_46 : decode cJ2_getChar_3b067 46 = .ok (.aload_n 0, 1) := by decide +kernel
theorem dJ2_getChar_3b067_47 : decode cJ2_getChar_3b067 47 = .ok (.iload_n 1, 1) := by decide +kernel
theorem dJ2_getChar_3b067_48 : decode cJ2_getChar_3b067 48 = .ok (.baload, 1) := by decide +kernel
theorem dJ2_getChar_3b067_49 : decode cJ2_getChar_3b067 49 = .ok (.sipush 255, 3) := by decide +kernel
theorem dJ2_getChar_3b067_52 : decode cJ2_getChar_3b067 52 = .ok (.iand, 1) := by decide +kernel
theorem dJ2_getChar_3b067_53 : decode cJ2_getChar_3b067 53 = .ok (.getstatic 63, 3) := by decide +kernel
theorem dJ2_getChar_3b067_56 : decode cJ2_getChar_3b067 56 = .ok (.ishl, 1) := by decide +kernel
theorem dJ2_getChar_3b067_57 : decode cJ2_getChar_3b067 57 = .ok (.ior, 1) := by decide +kernel
theorem dJ2_getChar_3b067_58 : decode cJ2_getChar_3b067 58 = .ok (.i2c, 1) := by decide +kernel
theorem dJ2_getChar_3b067_59 : decode cJ2_getChar_3b067 59 = .ok (.ireturn, 1) := by decide +kernel
theorem dJ2_length_9d52b_0 : decode cJ2_length_9d52b 0 = .ok (.aload_n 0, 1) := by decide +kernel
theorem dJ2_length_9d52b_1 : decode cJ2_length_9d52b 1 = .ok (.arraylength, 1) := by decide +kernel
theorem dJ2_length_9d52b_2 : decode cJ2_length_9d52b 2 = .ok (.iconst 1, 1) := by decide +kernel
theorem dJ2_length_9d52b_3 : decode cJ2_length_9d52b 3 = .ok (.ishr, 1) := by decide +kernel
theorem dJ2_length_9d52b_4 : decode cJ2_length_9d52b 4 = .ok (.ireturn, 1) := by decide +kernel
theorem dJ2_charAt_3b067_0 : decode cJ2_charAt_3b067 0 = .ok (.iload_n 1, 1) := by decide +kernel
theorem dJ2_charAt_3b067_1 : decode cJ2_charAt_3b067 1 = .ok (.aload_n 0, 1) := by decide +kernel
theorem dJ2_charAt_3b067_2 : decode cJ2_charAt_3b067 2 = .ok (.invokestatic 67, 3) := by decide +kernel
theorem dJ2_charAt_3b067_5 : decode cJ2_charAt_3b067 5 = .ok (.aload_n 0, 1) := by decide +kernel
theorem dJ2_charAt_3b067_6 : decode cJ2_charAt_3b067 6 = .ok (.iload_n 1, 1) := by decide +kernel
theorem dJ2_charAt_3b067_7 : decode cJ2_charAt_3b067 7 = .ok (.invokestatic 71, 3) := by decide +kernel
theorem dJ2_charAt_3b067_10 : decode cJ2_charAt_3b067 10 = .ok (.ireturn, 1) := by decide +kernel
theorem dJ2_checkIndex_2214a_0 : decode cJ2_checkIndex_2214a 0 = .ok (.iload_n 0, 1) := by decide +kernel
theorem dJ2_checkIndex_2214a_1 : decode cJ2_checkIndex_2214a 1 = .ok (.aload_n 1, 1) := by decide +kernel
theorem dJ2_checkIndex_2214a_2 : decode cJ2_checkIndex_2214a 2 = .ok (.invokestatic 48, 3) := by decide +kernel
theorem dJ2_checkIndex_2214a_5 : decode cJ2_checkIndex_2214a 5 = .ok (.invokestatic 414, 3) := by decide +kernel
theorem dJ2_checkIndex_2214a_8 : decode cJ2_checkIndex_2214a 8 = .ok (.return_, 1) := by decide +kernel
theorem dJ3_checkIndex_8e157_0 : decode cJ3_checkIndex_8e157 0 = .ok (.iload_n 0, 1) := by decide +kernel
theorem dJ3_checkIndex_8e157_1 : decode cJ3_checkIndex_8e157 1 = .ok (.ifCond .lt 8, 3) := by decide +kernel
theorem dJ3_checkIndex_8e157_4 : decode cJ3_checkIndex_8e157 4 = .ok (.iload_n 0, 1) := by decide +kernel
theorem dJ3_checkIndex_8e157_5 : decode cJ3_checkIndex_8e157 5 = .ok (.iload_n 1, 1) := by decide +kernel
theorem dJ3_checkIndex_8e157_6 : decode cJ3_checkIndex_8e157 6 = .ok (.if_icmp .lt 10, 3) := by decide +kernel
theorem dJ3_checkIndex_8e157_9 : decode cJ3_checkIndex_8e157 9 = .ok (.aload_n 2, 1) := by decide +kernel
theorem dJ3_checkIndex_8e157_10 : decode cJ3_checkIndex_8e157 10 = .ok (.iload_n 0, 1) := by decide +kernel
theorem dJ3_checkIndex_8e157_11 : decode cJ3_checkIndex_8e157 11 = .ok (.iload_n 1, 1) := by decide +kernel
theorem dJ3_checkIndex_8e157_12 : decode cJ3_checkIndex_8e157 12 = .ok (.invokestatic 95, 3) := by decide +kernel
theorem dJ3_checkIndex_8e157_15 : decode cJ3_checkIndex_8e157 15 = .ok (.athrow, 1) := by decide +kernel
theorem dJ3_checkIndex_8e157_16 : decode cJ3_checkIndex_8e157 16 = .ok (.iload_n 0, 1) := by decide +kernel
theorem dJ3_checkIndex_8e157_17 : decode cJ3_checkIndex_8e157 17 = .ok (.ireturn, 1) := by decide +kernel
theorem dL_law_0 : decode cL_law 0 = .ok (.new 7, 3) := by decide +kernel
theorem dL_law_3 : decode cL_law 3 = .ok (.dup, 1) := by decide +kernel
theorem dL_law_4 : decode cL_law 4 = .ok (.invokespecial 9, 3) := by decide +kernel
theorem dL_law_7 : decode cL_law 7 = .ok (.astore_n 1, 1) := by decide +kernel
theorem dL_law_8 : decode cL_law 8 = .ok (.new 10, 3) := by decide +kernel
theorem dL_law_11 : decode cL_law 11 = .ok (.dup, 1) := by decide +kernel
theorem dL_law_12 : decode cL_law 12 = .ok (.invokespecial 12, 3) := by decide +kernel
theorem dL_law_15 : decode cL_law 15 = .ok (.astore_n 2, 1) := by decide +kernel
theorem dL_law_16 : decode cL_law 16 = .ok (.iconst 0, 1) := by decide +kernel
theorem dL_law_17 : decode cL_law 17 = .ok (.istore_n 3, 1) := by decide +kernel
theorem dL_law_18 : decode cL_law 18 = .ok (.iload_n 3, 1) := by decide +kernel
theorem dL_law_19 : decode cL_law 19 = .ok (.aload_n 0, 1) := by decide +kernel
theorem dL_law_20 : decode cL_law 20 = .ok (.arraylength, 1) := by decide +kernel
theorem dL_law_21 : decode cL_law 21 = .ok (.bipush 6, 2) := by decide +kernel
theorem dL_law_23 : decode cL_law 23 = .ok (.isub, 1) := by decide +kernel
theorem dL_law_24 : decode cL_law 24 = .ok (.if_icmp .gt 926, 3) := by decide +kernel
theorem dL_law_27 : decode cL_law 27 = .ok (.aload_n 0, 1) := by decide +kernel
theorem dL_law_28 : decode cL_law 28 = .ok (.iload_n 3, 1) := by decide +kernel
theorem dL_law_29 : decode cL_law 29 = .ok (.iaload, 1) := by decide +kernel
theorem dL_law_30 : decode cL_law 30 = .ok (.bipush 63, 2) := by decide +kernel
theorem dL_law_32 : decode cL_law 32 = .ok (.iand, 1) := by decide +kernel
theorem dL_law_33 : decode cL_law 33 = .ok (.tableswitch 911 0 34 #[155, 218, 241, 254, 277, 300, 333, 356, 369, 382, 395, 418, 451, 464, 477, 490, 513, 526, 549, 562, 585, 608, 641, 674, 687, 700, 713, 736, 769, 783, 796, 829, 862, 885, 898], 155) := by decide +kernel
theorem dL_law_188 : decode cL_law 188 = .ok (.aload_n 1, 1) := by decide +kernel
theorem dL_law_189 : decode cL_law 189 = .ok (.aload_n 0, 1) := by decide +kernel
theorem dL_law_190 : decode cL_law 190 = .ok (.iload_n 3, 1) := by decide +kernel
theorem dL_law_191 : decode cL_law 191 = .ok (.iconst 1, 1) := by decide +kernel
theorem dL_law_192 : decode cL_law 192 = .ok (.iadd, 1) := by decide +kernel
theorem dL_law_193 : decode cL_law 193 = .ok (.iaload, 1) := by decide +kernel
theorem dL_law_194 : decode cL_law 194 = .ok (.aload_n 0, 1) := by decide +kernel
theorem dL_law_195 : decode cL_law 195 = .ok (.iload_n 3, 1) := by decide +kernel
theorem dL_law_196 : decode cL_law 196 = .ok (.iconst 2, 1) := by decide +kernel
theorem dL_law_197 : decode cL_law 197 = .ok (.iadd, 1) := by decide +kernel
theorem dL_law_198 : decode cL_law 198 = .ok (.iaload, 1) := by decide +kernel
theorem dL_law_199 : decode cL_law 199 = .ok (.aload_n 0, 1) := by decide +kernel
theorem dL_law_200 : decode cL_law 200 = .ok (.iload_n 3, 1) := by decide +kernel
theorem dL_law_201 : decode cL_law 201 = .ok (.iconst 3, 1) := by decide +kernel
theorem dL_law_202 : decode cL_law 202 = .ok (.iadd, 1) := by decide +kernel
theorem dL_law_203 : decode cL_law 203 = .ok (.iaload, 1) := by decide +kernel
theorem dL_law_204 : decode cL_law 204 = .ok (.aload_n 0, 1) := by decide +kernel
theorem dL_law_205 : decode cL_law 205 = .ok (.iload_n 3, 1) := by decide +kernel
theorem dL_law_206 : decode cL_law 206 = .ok (.iconst 4, 1) := by decide +kernel
theorem dL_law_207 : decode cL_law 207 = .ok (.iadd, 1) := by decide +kernel
theorem dL_law_208 : decode cL_law 208 = .ok (.iaload, 1) := by decide +kernel
theorem dL_law_209 : decode cL_law 209 = .ok (.aload_n 0, 1) := by decide +kernel
theorem dL_law_210 : decode cL_law 210 = .ok (.iload_n 3, 1) := by decide +kernel
theorem dL_law_211 : decode cL_law 211 = .ok (.iconst 5, 1) := by decide +kernel
theorem dL_law_212 : decode cL_law 212 = .ok (.iadd, 1) := by decide +kernel
theorem dL_law_213 : decode cL_law 213 = .ok (.iaload, 1) := by decide +kernel
theorem dL_law_214 : decode cL_law 214 = .ok (.invokevirtual 13, 3) := by decide +kernel
theorem dL_law_217 : decode cL_law 217 = .ok (.aload_n 2, 1) := by decide +kernel
theorem dL_law_218 : decode cL_law 218 = .ok (.aload_n 0, 1) := by decide +kernel
theorem dL_law_219 : decode cL_law 219 = .ok (.iload_n 3, 1) := by decide +kernel
theorem dL_law_220 : decode cL_law 220 = .ok (.iconst 1, 1) := by decide +kernel
theorem dL_law_221 : decode cL_law 221 = .ok (.iadd, 1) := by decide +kernel
theorem dL_law_222 : decode cL_law 222 = .ok (.iaload, 1) := by decide +kernel
theorem dL_law_223 : decode cL_law 223 = .ok (.aload_n 0, 1) := by decide +kernel
theorem dL_law_224 : decode cL_law 224 = .ok (.iload_n 3, 1) := by decide +kernel
theorem dL_law_225 : decode cL_law 225 = .ok (.iconst 2, 1) := by decide +kernel
theorem dL_law_226 : decode cL_law 226 = .ok (.iadd, 1) := by decide +kernel
theorem dL_law_227 : decode cL_law 227 = .ok (.iaload, 1) := by decide +kernel
theorem dL_law_228 : decode cL_law 228 = .ok (.aload_n 0, 1) := by decide +kernel
theorem dL_law_229 : decode cL_law 229 = .ok (.iload_n 3, 1) := by decide +kernel
theorem dL_law_230 : decode cL_law 230 = .ok (.iconst 3, 1) := by decide +kernel
theorem dL_law_231 : decode cL_law 231 = .ok (.iadd, 1) := by decide +kernel
theorem dL_law_232 : decode cL_law 232 = .ok (.iaload, 1) := by decide +kernel
theorem dL_law_233 : decode cL_law 233 = .ok (.aload_n 0, 1) := by decide +kernel
theorem dL_law_234 : decode cL_law 234 = .ok (.iload_n 3, 1) := by decide +kernel
theorem dL_law_235 : decode cL_law 235 = .ok (.iconst 4, 1) := by decide +kernel
theorem dL_law_236 : decode cL_law 236 = .ok (.iadd, 1) := by decide +kernel
theorem dL_law_237 : decode cL_law 237 = .ok (.iaload, 1) := by decide +kernel
theorem dL_law_238 : decode cL_law 238 = .ok (.aload_n 0, 1) := by decide +kernel
theorem dL_law_239 : decode cL_law 239 = .ok (.iload_n 3, 1) := by decide +kernel
theorem dL_law_240 : decode cL_law 240 = .ok (.iconst 5, 1) := by decide +kernel
theorem dL_law_241 : decode cL_law 241 = .ok (.iadd, 1) := by decide +kernel
theorem dL_law_242 : decode cL_law 242 = .ok (.iaload, 1) := by decide +kernel
theorem dL_law_243 : decode cL_law 243 = .ok (.invokevirtual 17, 3) := by decide +kernel
theorem dL_law_246 : decode cL_law 246 = .ok (.if_icmp .eq 698, 3) := by decide +kernel
theorem dL_law_249 : decode cL_law 249 = .ok (.iconst 0, 1) := by decide +kernel
theorem dL_law_250 : decode cL_law 250 = .ok (.ireturn, 1) := by decide +kernel
theorem dL_law_251 : decode cL_law 251 = .ok (.aload_n 1, 1) := by decide +kernel
theorem dL_law_252 : decode cL_law 252 = .ok (.aload_n 0, 1) := by decide +kernel
theorem dL_law_253 : decode cL_law 253 = .ok (.iload_n 3, 1) := by decide +kernel
theorem dL_law_254 : decode cL_law 254 = .ok (.iconst 1, 1) := by decide +kernel
theorem dL_law_255 : decode cL_law 255 = .ok (.iadd, 1) := by decide +kernel
theorem dL_law_256 : decode cL_law 256 = .ok (.iaload, 1) := by decide +kernel
theorem dL_law_257 : decode cL_law 257 = .ok (.invokevirtual 18, 3) := by decide +kernel
theorem dL_law_260 : decode cL_law 260 = .ok (.aload_n 2, 1) := by decide +kernel
theorem dL_law_261 : decode cL_law 261 = .ok (.aload_n 0, 1) := by decide +kernel
theorem dL_law_262 : decode cL_law 262 = .ok (.iload_n 3, 1) := by decide +kernel
theorem dL_law_263 : decode cL_law 263 = .ok (.iconst 1, 1) := by decide +kernel
theorem dL_law_264 : decode cL_law 264 = .ok (.iadd, 1) := by decide +kernel
theorem dL_law_265 : decode cL_law 265 = .ok (.iaload, 1) := by decide +kernel
theorem dL_law_266 : decode cL_law 266 = .ok (.invokevirtual 22, 3) := by decide +kernel
theorem dL_law_269 : decode cL_law 269 = .ok (.if_icmp .eq 675, 3) := by decide +kernel
theorem dL_law_272 : decode cL_law 272 = .ok (.iconst 0, 1) := by decide +kernel
theorem dL_law_273 : decode cL_law 273 = .ok (.ireturn, 1) := by decide +kernel
theorem dL_law_274 : decode cL_law 274 = .ok (.aload_n 1, 1) := by decide +kernel
theorem dL_law_275 : decode cL_law 275 = .ok (.invokevirtual 23, 3) := by decide +kernel
theorem dL_law_278 : decode cL_law 278 = .ok (.aload_n 2, 1) := by decide +kernel
theorem dL_law_279 : decode cL_law 279 = .ok (.invokevirtual 27, 3) := by decide +kernel
theorem dL_law_282 : decode cL_law 282 = .ok (.if_icmp .eq 662, 3) := by decide +kernel
theorem dL_law_285 : decode cL_law 285 = .ok (.iconst 0, 1) := by decide +kernel
theorem dL_law_286 : decode cL_law 286 = .ok (.ireturn, 1) := by decide +kernel
theorem dL_law_287 : decode cL_law 287 = .ok (.aload_n 1, 1) := by decide +kernel
theorem dL_law_288 : decode cL_law 288 = .ok (.aload_n 0, 1) := by decide +kernel
theorem dL_law_289 : decode cL_law 289 = .ok (.iload_n 3, 1) := by decide +kernel
theorem dL_law_290 : decode cL_law 290 = .ok (.iconst 1, 1) := by decide +kernel
theorem dL_law_291 : decode cL_law 291 = .ok (.iadd, 1) := by decide +kernel
theorem dL_law_292 : decode cL_law 292 = .ok (.iaload, 1) := by decide +kernel
theorem dL_law_293 : decode cL_law 293 = .ok (.invokevirtual 28, 3) := by decide +kernel
theorem dL_law_296 : decode cL_law 296 = .ok (.aload_n 2, 1) := by decide +kernel
theorem dL_law_297 : decode cL_law 297 = .ok (.aload_n 0, 1) := by decide +kernel
theorem dL_law_298 : decode cL_law 298 = .ok (.iload_n 3, 1) := by decide +kernel
theorem dL_law_299 : decode cL_law 299 = .ok (.iconst 1, 1) := by decide +kernel
theorem dL_law_300 : decode cL_law 300 = .ok (.iadd, 1) := by decide +kernel
theorem dL_law_301 : decode cL_law 301 = .ok (.iaload, 1) := by decide +kernel
theorem dL_law_302 : decode cL_law 302 = .ok (.invokevirtual 31, 3) := by decide +kernel
theorem dL_law_305 : decode cL_law 305 = .ok (.if_icmp .eq 639, 3) := by decide +kernel
theorem dL_law_308 : decode cL_law 308 = .ok (.iconst 0, 1) := by decide +kernel
theorem dL_law_309 : decode cL_law 309 = .ok (.ireturn, 1) := by decide +kernel
theorem dL_law_310 : decode cL_law 310 = .ok (.aload_n 1, 1) := by decide +kernel
theorem dL_law_311 : decode cL_law 311 = .ok (.aload_n 0, 1) := by decide +kernel
theorem dL_law_312 : decode cL_law 312 = .ok (.iload_n 3, 1) := by decide +kernel
theorem dL_law_313 : decode cL_law 313 = .ok (.iconst 1, 1) := by decide +kernel
theorem dL_law_314 : decode cL_law 314 = .ok (.iadd, 1) := by decide +kernel
theorem dL_law_315 : decode cL_law 315 = .ok (.iaload, 1) := by decide +kernel
theorem dL_law_316 : decode cL_law 316 = .ok (.invokevirtual 32, 3) := by decide +kernel
theorem dL_law_319 : decode cL_law 319 = .ok (.aload_n 2, 1) := by decide +kernel
theorem dL_law_320 : decode cL_law 320 = .ok (.aload_n 0, 1) := by decide +kernel
theorem dL_law_321 : decode cL_law 321 = .ok (.iload_n 3, 1) := by decide +kernel
theorem dL_law_322 : decode cL_law 322 = .ok (.iconst 1, 1) := by decide +kernel
theorem dL_law_323 : decode cL_law 323 = .ok (.iadd, 1) := by decide +kernel
theorem dL_law_324 : decode cL_law 324 = .ok (.iaload, 1) := by decide +kernel
theorem dL_law_325 : decode cL_law 325 = .ok (.invokevirtual 35, 3) := by decide +kernel
theorem dL_law_328 : decode cL_law 328 = .ok (.if_icmp .eq 616, 3) := by decide +kernel
theorem dL_law_331 : decode cL_law 331 = .ok (.iconst 0, 1) := by decide +kernel
theorem dL_law_332 : decode cL_law 332 = .ok (.ireturn, 1) := by decide +kernel
theorem dL_law_333 : decode cL_law 333 = .ok (.aload_n 1, 1) := by decide +kernel
theorem dL_law_334 : decode cL_law 334 = .ok (.aload_n 0, 1) := by decide +kernel
theorem dL_law_335 : decode cL_law 335 = .ok (.iload_n 3, 1) := by decide +kernel
theorem dL_law_336 : decode cL_law 336 = .ok (.iconst 1, 1) := by decide +kernel
theorem dL_law_337 : decode cL_law 337 = .ok (.iadd, 1) := by decide +kernel
theorem dL_law_338 : decode cL_law 338 = .ok (.iaload, 1) := by decide +kernel
theorem dL_law_339 : decode cL_law 339 = .ok (.aload_n 0, 1) := by decide +kernel
theorem dL_law_340 : decode cL_law 340 = .ok (.iload_n 3, 1) := by decide +kernel
theorem dL_law_341 : decode cL_law 341 = .ok (.iconst 2, 1) := by decide +kernel
theorem dL_law_342 : decode cL_law 342 = .ok (.iadd, 1) := by decide +kernel
theorem dL_law_343 : decode cL_law 343 = .ok (.iaload, 1) := by decide +kernel
theorem dL_law_344 : decode cL_law 344 = .ok (.invokevirtual 36, 3) := by decide +kernel
theorem dL_law_347 : decode cL_law 347 = .ok (.aload_n 2, 1) := by decide +kernel
theorem dL_law_348 : decode cL_law 348 = .ok (.aload_n 0, 1) := by decide +kernel
theorem dL_law_349 : decode cL_law 349 = .ok (.iload_n 3, 1) := by decide +kernel
theorem dL_law_350 : decode cL_law 350 = .ok (.iconst 1, 1) := by decide +kernel
theorem dL_law_351 : decode cL_law 351 = .ok (.iadd, 1) := by decide +kernel
theorem dL_law_352 : decode cL_law 352 = .ok (.iaload, 1) := by decide +kernel
theorem dL_law_353 : decode cL_law 353 = .ok (.aload_n 0, 1) := by decide +kernel
theorem dL_law_354 : decode cL_law 354 = .ok (.iload_n 3, 1) := by decide +kernel
theorem dL_law_355 : decode cL_law 355 = .ok (.iconst 2, 1) := by decide +kernel
theorem dL_law_356 : decode cL_law 356 = .ok (.iadd, 1) := by decide +kernel
theorem dL_law_357 : decode cL_law 357 = .ok (.iaload, 1) := by decide +kernel
theorem dL_law_358 : decode cL_law 358 = .ok (.invokevirtual 40, 3) := by decide +kernel
theorem dL_law_361 : decode cL_law 361 = .ok (.if_icmp .eq 583, 3) := by decide +kernel
theorem dL_law_364 : decode cL_law 364 = .ok (.iconst 0, 1) := by decide +kernel
theorem dL_law_365 : decode cL_law 365 = .ok (.ireturn, 1) := by decide +kernel
theorem dL_law_366 : decode cL_law 366 = .ok (.aload_n 1, 1) := by decide +kernel
theorem dL_law_367 : decode cL_law 367 = .ok (.aload_n 0, 1) := by decide +kernel
theorem dL_law_368 : decode cL_law 368 = .ok (.iload_n 3, 1) := by decide +kernel
theorem dL_law_369 : decode cL_law 369 = .ok (.iconst 1, 1) := by decide +kernel
theorem dL_law_370 : decode cL_law 370 = .ok (.iadd, 1) := by decide +kernel
theorem dL_law_371 : decode cL_law 371 = .ok (.iaload, 1) := by decide +kernel
theorem dL_law_372 : decode cL_law 372 = .ok (.invokevirtual 41, 3) := by decide +kernel
theorem dL_law_375 : decode cL_law 375 = .ok (.aload_n 2, 1) := by decide +kernel
theorem dL_law_376 : decode cL_law 376 = .ok (.aload_n 0, 1) := by decide +kernel
theorem dL_law_377 : decode cL_law 377 = .ok (.iload_n 3, 1) := by decide +kernel
theorem dL_law_378 : decode cL_law 378 = .ok (.iconst 1, 1) := by decide +kernel
theorem dL_law_379 : decode cL_law 379 = .ok (.iadd, 1) := by decide +kernel
theorem dL_law_380 : decode cL_law 380 = .ok (.iaload, 1) := by decide +kernel
theorem dL_law_381 : decode cL_law 381 = .ok (.invokevirtual 44, 3) := by decide +kernel
theorem dL_law_384 : decode cL_law 384 = .ok (.if_icmp .eq 560, 3) := by decide +kernel
theorem dL_law_387 : decode cL_law 387 = .ok (.iconst 0, 1) := by decide +kernel
theorem dL_law_388 : decode cL_law 388 = .ok (.ireturn, 1) := by decide +kernel
theorem dL_law_389 : decode cL_law 389 = .ok (.aload_n 1, 1) := by decide +kernel
theorem dL_law_390 : decode cL_law 390 = .ok (.invokevirtual 45, 3) := by decide +kernel
theorem dL_law_393 : decode cL_law 393 = .ok (.aload_n 2, 1) := by decide +kernel
theorem dL_law_394 : decode cL_law 394 = .ok (.invokevirtual 48, 3) := by decide +kernel
theorem dL_law_397 : decode cL_law 397 = .ok (.if_icmp .eq 547, 3) := by decide +kernel
theorem dL_law_400 : decode cL_law 400 = .ok (.iconst 0, 1) := by decide +kernel
theorem dL_law_401 : decode cL_law 401 = .ok (.ireturn, 1) := by decide +kernel
theorem dL_law_402 : decode cL_law 402 = .ok (.aload_n 1, 1) := by decide +kernel
theorem dL_law_403 : decode cL_law 403 = .ok (.invokevirtual 49, 3) := by decide +kernel
theorem dL_law_406 : decode cL_law 406 = .ok (.aload_n 2, 1) := by decide +kernel
theorem dL_law_407 : decode cL_law 407 = .ok (.invokevirtual 52, 3) := by decide +kernel
theorem dL_law_410 : decode cL_law 410 = .ok (.if_icmp .eq 534, 3) := by decide +kernel
theorem dL_law_413 : decode cL_law 413 = .ok (.iconst 0, 1) := by decide +kernel
theorem dL_law_414 : decode cL_law 414 = .ok (.ireturn, 1) := by decide +kernel
theorem dL_law_415 : decode cL_law 415 = .ok (.aload_n 1, 1) := by decide +kernel
theorem dL_law_416 : decode cL_law 416 = .ok (.invokevirtual 53, 3) := by decide +kernel
theorem dL_law_419 : decode cL_law 419 = .ok (.aload_n 2, 1) := by decide +kernel
theorem dL_law_420 : decode cL_law 420 = .ok (.invokevirtual 56, 3) := by decide +kernel
theorem dL_law_423 : decode cL_law 423 = .ok (.if_icmp .eq 521, 3) := by decide +kernel
theorem dL_law_426 : decode cL_law 426 = .ok (.iconst 0, 1) := by decide +kernel
theorem dL_law_427 : decode cL_law 427 = .ok (.ireturn, 1) := by decide +kernel
theorem dL_law_428 : decode cL_law 428 = .ok (.aload_n 1, 1) := by decide +kernel
theorem dL_law_429 : decode cL_law 429 = .ok (.aload_n 0, 1) := by decide +kernel
theorem dL_law_430 : decode cL_law 430 = .ok (.iload_n 3, 1) := by decide +kernel
theorem dL_law_431 : decode cL_law 431 = .ok (.iconst 1, 1) := by decide +kernel
theorem dL_law_432 : decode cL_law 432 = .ok (.iadd, 1) := by decide +kernel
theorem dL_law_433 : decode cL_law 433 = .ok (.iaload, 1) := by decide +kernel
theorem dL_law_434 : decode cL_law 434 = .ok (.invokevirtual 57, 3) := by decide +kernel
theorem dL_law_437 : decode cL_law 437 = .ok (.aload_n 2, 1) := by decide +kernel
theorem dL_law_438 : decode cL_law 438 = .ok (.aload_n 0, 1) := by decide +kernel
theorem dL_law_439 : decode cL_law 439 = .ok (.iload_n 3, 1) := by decide +kernel
theorem dL_law_440 : decode cL_law 440 = .ok (.iconst 1, 1) := by decide +kernel
theorem dL_law_441 : decode cL_law 441 = .ok (.iadd, 1) := by decide +kernel
theorem dL_law_442 : decode cL_law 442 = .ok (.iaload, 1) := by decide +kernel
theorem dL_law_443 : decode cL_law 443 = .ok (.invokevirtual 60, 3) := by decide +kernel
theorem dL_law_446 : decode cL_law 446 = .ok (.if_icmp .eq 498, 3) := by decide +kernel
theorem dL_law_449 : decode cL_law 449 = .ok (.iconst 0, 1) := by decide +kernel
theorem dL_law_450 : decode cL_law 450 = .ok (.ireturn, 1) := by decide +kernel
theorem dL_law_451 : decode cL_law 451 = .ok (.aload_n 1, 1) := by decide +kernel
theorem dL_law_452 : decode cL_law 452 = .ok (.aload_n 0, 1) := by decide +kernel
theorem dL_law_453 : decode cL_law 453 = .ok (.iload_n 3, 1) := by decide +kernel
theorem dL_law_454 : decode cL_law 454 = .ok (.iconst 1, 1) := by decide +kernel
theorem dL_law_455 : decode cL_law 455 = .ok (.iadd, 1) := by decide +kernel
theorem dL_law_456 : decode cL_law 456 = .ok (.iaload, 1) := by decide +kernel
theorem dL_law_457 : decode cL_law 457 = .ok (.aload_n 0, 1) := by decide +kernel
theorem dL_law_458 : decode cL_law 458 = .ok (.iload_n 3, 1) := by decide +kernel
theorem dL_law_459 : decode cL_law 459 = .ok (.iconst 2, 1) := by decide +kernel
theorem dL_law_460 : decode cL_law 460 = .ok (.iadd, 1) := by decide +kernel
theorem dL_law_461 : decode cL_law 461 = .ok (.iaload, 1) := by decide +kernel
theorem dL_law_462 : decode cL_law 462 = .ok (.invokevirtual 61, 3) := by decide +kernel
theorem dL_law_465 : decode cL_law 465 = .ok (.aload_n 2, 1) := by decide +kernel
theorem dL_law_466 : decode cL_law 466 = .ok (.aload_n 0, 1) := by decide +kernel
theorem dL_law_467 : decode cL_law 467 = .ok (.iload_n 3, 1) := by decide +kernel
theorem dL_law_468 : decode cL_law 468 = .ok (.iconst 1, 1) := by decide +kernel
theorem dL_law_469 : decode cL_law 469 = .ok (.iadd, 1) := by decide +kernel
theorem dL_law_470 : decode cL_law 470 = .ok (.iaload, 1) := by decide +kernel
theorem dL_law_471 : decode cL_law 471 = .ok (.aload_n 0, 1) := by decide +kernel
theorem dL_law_472 : decode cL_law 472 = .ok (.iload_n 3, 1) := by decide +kernel
theorem dL_law_473 : decode cL_law 473 = .ok (.iconst 2, 1) := by decide +kernel
theorem dL_law_474 : decode cL_law 474 = .ok (.iadd, 1) := by decide +kernel
theorem dL_law_475 : decode cL_law 475 = .ok (.iaload, 1) := by decide +kernel
theorem dL_law_476 : decode cL_law 476 = .ok (.invokevirtual 64, 3) := by decide +kernel
theorem dL_law_479 : decode cL_law 479 = .ok (.if_icmp .eq 465, 3) := by decide +kernel
theorem dL_law_482 : decode cL_law 482 = .ok (.iconst 0, 1) := by decide +kernel
theorem dL_law_483 : decode cL_law 483 = .ok (.ireturn, 1) := by decide +kernel
theorem dL_law_484 : decode cL_law 484 = .ok (.aload_n 1, 1) := by decide +kernel
theorem dL_law_485 : decode cL_law 485 = .ok (.invokevirtual 65, 3) := by decide +kernel
theorem dL_law_488 : decode cL_law 488 = .ok (.aload_n 2, 1) := by decide +kernel
theorem dL_law_489 : decode cL_law 489 = .ok (.invokevirtual 68, 3) := by decide +kernel
theorem dL_law_492 : decode cL_law 492 = .ok (.if_icmp .eq 452, 3) := by decide +kernel
theorem dL_law_495 : decode cL_law 495 = .ok (.iconst 0, 1) := by decide +kernel
theorem dL_law_496 : decode cL_law 496 = .ok (.ireturn, 1) := by decide +kernel
theorem dL_law_497 : decode cL_law 497 = .ok (.aload_n 1, 1) := by decide +kernel
theorem dL_law_498 : decode cL_law 498 = .ok (.invokevirtual 69, 3) := by decide +kernel
theorem dL_law_501 : decode cL_law 501 = .ok (.aload_n 2, 1) := by decide +kernel
theorem dL_law_502 : decode cL_law 502 = .ok (.invokevirtual 72, 3) := by decide +kernel
theorem dL_law_505 : decode cL_law 505 = .ok (.if_icmp .eq 439, 3) := by decide +kernel
theorem dL_law_508 : decode cL_law 508 = .ok (.iconst 0, 1) := by decide +kernel
theorem dL_law_509 : decode cL_law 509 = .ok (.ireturn, 1) := by decide +kernel
theorem dL_law_510 : decode cL_law 510 = .ok (.aload_n 1, 1) := by decide +kernel
theorem dL_law_511 : decode cL_law 511 = .ok (.invokevirtual 73, 3) := by decide +kernel
theorem dL_law_514 : decode cL_law 514 = .ok (.aload_n 2, 1) := by decide +kernel
theorem dL_law_515 : decode cL_law 515 = .ok (.invokevirtual 76, 3) := by decide +kernel
theorem dL_law_518 : decode cL_law 518 = .ok (.if_icmp .eq 426, 3) := by decide +kernel
theorem dL_law_521 : decode cL_law 521 = .ok (.iconst 0, 1) := by decide +kernel
theorem dL_law_522 : decode cL_law 522 = .ok (.ireturn, 1) := by decide +kernel
theorem dL_law_523 : decode cL_law 523 = .ok (.aload_n 1, 1) := by decide +kernel
theorem dL_law_524 : decode cL_law 524 = .ok (.aload_n 0, 1) := by decide +kernel
theorem dL_law_525 : decode cL_law 525 = .ok (.iload_n 3, 1) := by decide +kernel
theorem dL_law_526 : decode cL_law 526 = .ok (.iconst 1, 1) := by decide +kernel
theorem dL_law_527 : decode cL_law 527 = .ok (.iadd, 1) := by decide +kernel
theorem dL_law_528 : decode cL_law 528 = .ok (.iaload, 1) := by decide +kernel
theorem dL_law_529 : decode cL_law 529 = .ok (.invokevirtual 77, 3) := by decide +kernel
theorem dL_law_532 : decode cL_law 532 = .ok (.aload_n 2, 1) := by decide +kernel
theorem dL_law_533 : decode cL_law 533 = .ok (.aload_n 0, 1) := by decide +kernel
theorem dL_law_534 : decode cL_law 534 = .ok (.iload_n 3, 1) := by decide +kernel
theorem dL_law_535 : decode cL_law 535 = .ok (.iconst 1, 1) := by decide +kernel
theorem dL_law_536 : decode cL_law 536 = .ok (.iadd, 1) := by decide +kernel
theorem dL_law_537 : decode cL_law 537 = .ok (.iaload, 1) := by decide +kernel
theorem dL_law_538 : decode cL_law 538 = .ok (.invokevirtual 80, 3) := by decide +kernel
theorem dL_law_541 : decode cL_law 541 = .ok (.if_icmp .eq 403, 3) := by decide +kernel
theorem dL_law_544 : decode cL_law 544 = .ok (.iconst 0, 1) := by decide +kernel
theorem dL_law_545 : decode cL_law 545 = .ok (.ireturn, 1) := by decide +kernel
theorem dL_law_546 : decode cL_law 546 = .ok (.aload_n 1, 1) := by decide +kernel
theorem dL_law_547 : decode cL_law 547 = .ok (.invokevirtual 81, 3) := by decide +kernel
theorem dL_law_550 : decode cL_law 550 = .ok (.aload_n 2, 1) := by decide +kernel
theorem dL_law_551 : decode cL_law 551 = .ok (.invokevirtual 84, 3) := by decide +kernel
theorem dL_law_554 : decode cL_law 554 = .ok (.if_icmp .eq 390, 3) := by decide +kernel
theorem dL_law_557 : decode cL_law 557 = .ok (.iconst 0, 1) := by decide +kernel
theorem dL_law_558 : decode cL_law 558 = .ok (.ireturn, 1) := by decide +kernel
theorem dL_law_559 : decode cL_law 559 = .ok (.aload_n 1, 1) := by decide +kernel
theorem dL_law_560 : decode cL_law 560 = .ok (.aload_n 0, 1) := by decide +kernel
theorem dL_law_561 : decode cL_law 561 = .ok (.iload_n 3, 1) := by decide +kernel
theorem dL_law_562 : decode cL_law 562 = .ok (.iconst 1, 1) := by decide +kernel
theorem dL_law_563 : decode cL_law 563 = .ok (.iadd, 1) := by decide +kernel
theorem dL_law_564 : decode cL_law 564 = .ok (.iaload, 1) := by decide +kernel
theorem dL_law_565 : decode cL_law 565 = .ok (.invokevirtual 85, 3) := by decide +kernel
theorem dL_law_568 : decode cL_law 568 = .ok (.aload_n 2, 1) := by decide +kernel
theorem dL_law_569 : decode cL_law 569 = .ok (.aload_n 0, 1) := by decide +kernel
theorem dL_law_570 : decode cL_law 570 = .ok (.iload_n 3, 1) := by decide +kernel
theorem dL_law_571 : decode cL_law 571 = .ok (.iconst 1, 1) := by decide +kernel
theorem dL_law_572 : decode cL_law 572 = .ok (.iadd, 1) := by decide +kernel
theorem dL_law_573 : decode cL_law 573 = .ok (.iaload, 1) := by decide +kernel
theorem dL_law_574 : decode cL_law 574 = .ok (.invokevirtual 88, 3) := by decide +kernel
theorem dL_law_577 : decode cL_law 577 = .ok (.if_icmp .eq 367, 3) := by decide +kernel
theorem dL_law_580 : decode cL_law 580 = .ok (.iconst 0, 1) := by decide +kernel
theorem dL_law_581 : decode cL_law 581 = .ok (.ireturn, 1) := by decide +kernel
theorem dL_law_582 : decode cL_law 582 = .ok (.aload_n 1, 1) := by decide +kernel
theorem dL_law_583 : decode cL_law 583 = .ok (.invokevirtual 89, 3) := by decide +kernel
theorem dL_law_586 : decode cL_law 586 = .ok (.aload_n 2, 1) := by decide +kernel
theorem dL_law_587 : decode cL_law 587 = .ok (.invokevirtual 92, 3) := by decide +kernel
theorem dL_law_590 : decode cL_law 590 = .ok (.if_icmp .eq 354, 3) := by decide +kernel
theorem dL_law_593 : decode cL_law 593 = .ok (.iconst 0, 1) := by decide +kernel
theorem dL_law_594 : decode cL_law 594 = .ok (.ireturn, 1) := by decide +kernel
theorem dL_law_595 : decode cL_law 595 = .ok (.aload_n 1, 1) := by decide +kernel
theorem dL_law_596 : decode cL_law 596 = .ok (.aload_n 0, 1) := by decide +kernel
theorem dL_law_597 : decode cL_law 597 = .ok (.iload_n 3, 1) := by decide +kernel
theorem dL_law_598 : decode cL_law 598 = .ok (.iconst 1, 1) := by decide +kernel
theorem dL_law_599 : decode cL_law 599 = .ok (.iadd, 1) := by decide +kernel
theorem dL_law_600 : decode cL_law 600 = .ok (.iaload, 1) := by decide +kernel
theorem dL_law_601 : decode cL_law 601 = .ok (.invokevirtual 93, 3) := by decide +kernel
theorem dL_law_604 : decode cL_law 604 = .ok (.aload_n 2, 1) := by decide +kernel
theorem dL_law_605 : decode cL_law 605 = .ok (.aload_n 0, 1) := by decide +kernel
theorem dL_law_606 : decode cL_law 606 = .ok (.iload_n 3, 1) := by decide +kernel
theorem dL_law_607 : decode cL_law 607 = .ok (.iconst 1, 1) := by decide +kernel
theorem dL_law_608 : decode cL_law 608 = .ok (.iadd, 1) := by decide +kernel
theorem dL_law_609 : decode cL_law 609 = .ok (.iaload, 1) := by decide +kernel
theorem dL_law_610 : decode cL_law 610 = .ok (.invokevirtual 96, 3) := by decide +kernel
theorem dL_law_613 : decode cL_law 613 = .ok (.if_icmp .eq 331, 3) := by decide +kernel
theorem dL_law_616 : decode cL_law 616 = .ok (.iconst 0, 1) := by decide +kernel
theorem dL_law_617 : decode cL_law 617 = .ok (.ireturn, 1) := by decide +kernel
theorem dL_law_618 : decode cL_law 618 = .ok (.aload_n 1, 1) := by decide +kernel
theorem dL_law_619 : decode cL_law 619 = .ok (.aload_n 0, 1) := by decide +kernel
theorem dL_law_620 : decode cL_law 620 = .ok (.iload_n 3, 1) := by decide +kernel
theorem dL_law_621 : decode cL_law 621 = .ok (.iconst 1, 1) := by decide +kernel
theorem dL_law_622 : decode cL_law 622 = .ok (.iadd, 1) := by decide +kernel
theorem dL_law_623 : decode cL_law 623 = .ok (.iaload, 1) := by decide +kernel
theorem dL_law_624 : decode cL_law 624 = .ok (.invokevirtual 97, 3) := by decide +kernel
theorem dL_law_627 : decode cL_law 627 = .ok (.aload_n 2, 1) := by decide +kernel
theorem dL_law_628 : decode cL_law 628 = .ok (.aload_n 0, 1) := by decide +kernel
theorem dL_law_629 : decode cL_law 629 = .ok (.iload_n 3, 1) := by decide +kernel
theorem dL_law_630 : decode cL_law 630 = .ok (.iconst 1, 1) := by decide +kernel
theorem dL_law_631 : decode cL_law 631 = .ok (.iadd, 1) := by decide +kernel
theorem dL_law_632 : decode cL_law 632 = .ok (.iaload, 1) := by decide +kernel
theorem dL_law_633 : decode cL_law 633 = .ok (.invokevirtual 100, 3) := by decide +kernel
theorem dL_law_636 : decode cL_law 636 = .ok (.if_icmp .eq 308, 3) := by decide +kernel
theorem dL_law_639 : decode cL_law 639 = .ok (.iconst 0, 1) := by decide +kernel
theorem dL_law_640 : decode cL_law 640 = .ok (.ireturn, 1) := by decide +kernel
theorem dL_law_641 : decode cL_law 641 = .ok (.aload_n 1, 1) := by decide +kernel
theorem dL_law_642 : decode cL_law 642 = .ok (.aload_n 0, 1) := by decide +kernel
theorem dL_law_643 : decode cL_law 643 = .ok (.iload_n 3, 1) := by decide +kernel
theorem dL_law_644 : decode cL_law 644 = .ok (.iconst 1, 1) := by decide +kernel
theorem dL_law_645 : decode cL_law 645 = .ok (.iadd, 1) := by decide +kernel
theorem dL_law_646 : decode cL_law 646 = .ok (.iaload, 1) := by decide +kernel
theorem dL_law_647 : decode cL_law 647 = .ok (.aload_n 0, 1) := by decide +kernel
theorem dL_law_648 : decode cL_law 648 = .ok (.iload_n 3, 1) := by decide +kernel
theorem dL_law_649 : decode cL_law 649 = .ok (.iconst 2, 1) := by decide +kernel
theorem dL_law_650 : decode cL_law 650 = .ok (.iadd, 1) := by decide +kernel
theorem dL_law_651 : decode cL_law 651 = .ok (.iaload, 1) := by decide +kernel
theorem dL_law_652 : decode cL_law 652 = .ok (.invokevirtual 101, 3) := by decide +kernel
theorem dL_law_655 : decode cL_law 655 = .ok (.aload_n 2, 1) := by decide +kernel
theorem dL_law_656 : decode cL_law 656 = .ok (.aload_n 0, 1) := by decide +kernel
theorem dL_law_657 : decode cL_law 657 = .ok (.iload_n 3, 1) := by decide +kernel
theorem dL_law_658 : decode cL_law 658 = .ok (.iconst 1, 1) := by decide +kernel
theorem dL_law_659 : decode cL_law 659 = .ok (.iadd, 1) := by decide +kernel
theorem dL_law_660 : decode cL_law 660 = .ok (.iaload, 1) := by decide +kernel
theorem dL_law_661 : decode cL_law 661 = .ok (.aload_n 0, 1) := by decide +kernel
theorem dL_law_662 : decode cL_law 662 = .ok (.iload_n 3, 1) := by decide +kernel
theorem dL_law_663 : decode cL_law 663 = .ok (.iconst 2, 1) := by decide +kernel
theorem dL_law_664 : decode cL_law 664 = .ok (.iadd, 1) := by decide +kernel
theorem dL_law_665 : decode cL_law 665 = .ok (.iaload, 1) := by decide +kernel
theorem dL_law_666 : decode cL_law 666 = .ok (.invokevirtual 104, 3) := by decide +kernel
theorem dL_law_669 : decode cL_law 669 = .ok (.if_icmp .eq 275, 3) := by decide +kernel
theorem dL_law_672 : decode cL_law 672 = .ok (.iconst 0, 1) := by decide +kernel
theorem dL_law_673 : decode cL_law 673 = .ok (.ireturn, 1) := by decide +kernel
theorem dL_law_674 : decode cL_law 674 = .ok (.aload_n 1, 1) := by decide +kernel
theorem dL_law_675 : decode cL_law 675 = .ok (.aload_n 0, 1) := by decide +kernel
theorem dL_law_676 : decode cL_law 676 = .ok (.iload_n 3, 1) := by decide +kernel
theorem dL_law_677 : decode cL_law 677 = .ok (.iconst 1, 1) := by decide +kernel
theorem dL_law_678 : decode cL_law 678 = .ok (.iadd, 1) := by decide +kernel
theorem dL_law_679 : decode cL_law 679 = .ok (.iaload, 1) := by decide +kernel
theorem dL_law_680 : decode cL_law 680 = .ok (.aload_n 0, 1) := by decide +kernel
theorem dL_law_681 : decode cL_law 681 = .ok (.iload_n 3, 1) := by decide +kernel
theorem dL_law_682 : decode cL_law 682 = .ok (.iconst 2, 1) := by decide +kernel
theorem dL_law_683 : decode cL_law 683 = .ok (.iadd, 1) := by decide +kernel
theorem dL_law_684 : decode cL_law 684 = .ok (.iaload, 1) := by decide +kernel
theorem dL_law_685 : decode cL_law 685 = .ok (.invokevirtual 105, 3) := by decide +kernel
theorem dL_law_688 : decode cL_law 688 = .ok (.aload_n 2, 1) := by decide +kernel
theorem dL_law_689 : decode cL_law 689 = .ok (.aload_n 0, 1) := by decide +kernel
theorem dL_law_690 : decode cL_law 690 = .ok (.iload_n 3, 1) := by decide +kernel
theorem dL_law_691 : decode cL_law 691 = .ok (.iconst 1, 1) := by decide +kernel
theorem dL_law_692 : decode cL_law 692 = .ok (.iadd, 1) := by decide +kernel
theorem dL_law_693 : decode cL_law 693 = .ok (.iaload, 1) := by decide +kernel
theorem dL_law_694 : decode cL_law 694 = .ok (.aload_n 0, 1) := by decide +kernel
theorem dL_law_695 : decode cL_law 695 = .ok (.iload_n 3, 1) := by decide +kernel
theorem dL_law_696 : decode cL_law 696 = .ok (.iconst 2, 1) := by decide +kernel
theorem dL_law_697 : decode cL_law 697 = .ok (.iadd, 1) := by decide +kernel
theorem dL_law_698 : decode cL_law 698 = .ok (.iaload, 1) := by decide +kernel
theorem dL_law_699 : decode cL_law 699 = .ok (.invokevirtual 108, 3) := by decide +kernel
theorem dL_law_702 : decode cL_law 702 = .ok (.if_icmp .eq 242, 3) := by decide +kernel
theorem dL_law_705 : decode cL_law 705 = .ok (.iconst 0, 1) := by decide +kernel
theorem dL_law_706 : decode cL_law 706 = .ok (.ireturn, 1) := by decide +kernel
theorem dL_law_707 : decode cL_law 707 = .ok (.aload_n 1, 1) := by decide +kernel
theorem dL_law_708 : decode cL_law 708 = .ok (.invokevirtual 109, 3) := by decide +kernel
theorem dL_law_711 : decode cL_law 711 = .ok (.aload_n 2, 1) := by decide +kernel
theorem dL_law_712 : decode cL_law 712 = .ok (.invokevirtual 112, 3) := by decide +kernel
theorem dL_law_715 : decode cL_law 715 = .ok (.if_icmp .eq 229, 3) := by decide +kernel
theorem dL_law_718 : decode cL_law 718 = .ok (.iconst 0, 1) := by decide +kernel
theorem dL_law_719 : decode cL_law 719 = .ok (.ireturn, 1) := by decide +kernel
theorem dL_law_720 : decode cL_law 720 = .ok (.aload_n 1, 1) := by decide +kernel
theorem dL_law_721 : decode cL_law 721 = .ok (.invokevirtual 113, 3) := by decide +kernel
theorem dL_law_724 : decode cL_law 724 = .ok (.aload_n 2, 1) := by decide +kernel
theorem dL_law_725 : decode cL_law 725 = .ok (.invokevirtual 116, 3) := by decide +kernel
theorem dL_law_728 : decode cL_law 728 = .ok (.if_icmp .eq 216, 3) := by decide +kernel
theorem dL_law_731 : decode cL_law 731 = .ok (.iconst 0, 1) := by decide +kernel
theorem dL_law_732 : decode cL_law 732 = .ok (.ireturn, 1) := by decide +kernel
theorem dL_law_733 : decode cL_law 733 = .ok (.aload_n 1, 1) := by decide +kernel
theorem dL_law_734 : decode cL_law 734 = .ok (.invokevirtual 117, 3) := by decide +kernel
theorem dL_law_737 : decode cL_law 737 = .ok (.aload_n 2, 1) := by decide +kernel
theorem dL_law_738 : decode cL_law 738 = .ok (.invokevirtual 120, 3) := by decide +kernel
theorem dL_law_741 : decode cL_law 741 = .ok (.if_icmp .eq 203, 3) := by decide +kernel
theorem dL_law_744 : decode cL_law 744 = .ok (.iconst 0, 1) := by decide +kernel
theorem dL_law_745 : decode cL_law 745 = .ok (.ireturn, 1) := by decide +kernel
theorem dL_law_746 : decode cL_law 746 = .ok (.aload_n 1, 1) := by decide +kernel
theorem dL_law_747 : decode cL_law 747 = .ok (.aload_n 0, 1) := by decide +kernel
theorem dL_law_748 : decode cL_law 748 = .ok (.iload_n 3, 1) := by decide +kernel
theorem dL_law_749 : decode cL_law 749 = .ok (.iconst 1, 1) := by decide +kernel
theorem dL_law_750 : decode cL_law 750 = .ok (.iadd, 1) := by decide +kernel
theorem dL_law_751 : decode cL_law 751 = .ok (.iaload, 1) := by decide +kernel
theorem dL_law_752 : decode cL_law 752 = .ok (.invokevirtual 121, 3) := by decide +kernel
theorem dL_law_755 : decode cL_law 755 = .ok (.aload_n 2, 1) := by decide +kernel
theorem dL_law_756 : decode cL_law 756 = .ok (.aload_n 0, 1) := by decide +kernel
theorem dL_law_757 : decode cL_law 757 = .ok (.iload_n 3, 1) := by decide +kernel
theorem dL_law_758 : decode cL_law 758 = .ok (.iconst 1, 1) := by decide +kernel
theorem dL_law_759 : decode cL_law 759 = .ok (.iadd, 1) := by decide +kernel
theorem dL_law_760 : decode cL_law 760 = .ok (.iaload, 1) := by decide +kernel
theorem dL_law_761 : decode cL_law 761 = .ok (.invokevirtual 124, 3) := by decide +kernel
theorem dL_law_764 : decode cL_law 764 = .ok (.if_icmp .eq 180, 3) := by decide +kernel
theorem dL_law_767 : decode cL_law 767 = .ok (.iconst 0, 1) := by decide +kernel
theorem dL_law_768 : decode cL_law 768 = .ok (.ireturn, 1) := by decide +kernel
theorem dL_law_769 : decode cL_law 769 = .ok (.aload_n 1, 1) := by decide +kernel
theorem dL_law_770 : decode cL_law 770 = .ok (.aload_n 0, 1) := by decide +kernel
theorem dL_law_771 : decode cL_law 771 = .ok (.iload_n 3, 1) := by decide +kernel
theorem dL_law_772 : decode cL_law 772 = .ok (.iconst 1, 1) := by decide +kernel
theorem dL_law_773 : decode cL_law 773 = .ok (.iadd, 1) := by decide +kernel
theorem dL_law_774 : decode cL_law 774 = .ok (.iaload, 1) := by decide +kernel
theorem dL_law_775 : decode cL_law 775 = .ok (.aload_n 0, 1) := by decide +kernel
theorem dL_law_776 : decode cL_law 776 = .ok (.iload_n 3, 1) := by decide +kernel
theorem dL_law_777 : decode cL_law 777 = .ok (.iconst 2, 1) := by decide +kernel
theorem dL_law_778 : decode cL_law 778 = .ok (.iadd, 1) := by decide +kernel
theorem dL_law_779 : decode cL_law 779 = .ok (.iaload, 1) := by decide +kernel
theorem dL_law_780 : decode cL_law 780 = .ok (.invokevirtual 125, 3) := by decide +kernel
theorem dL_law_783 : decode cL_law 783 = .ok (.aload_n 2, 1) := by decide +kernel
theorem dL_law_784 : decode cL_law 784 = .ok (.aload_n 0, 1) := by decide +kernel
theorem dL_law_785 : decode cL_law 785 = .ok (.iload_n 3, 1) := by decide +kernel
theorem dL_law_786 : decode cL_law 786 = .ok (.iconst 1, 1) := by decide +kernel
theorem dL_law_787 : decode cL_law 787 = .ok (.iadd, 1) := by decide +kernel
theorem dL_law_788 : decode cL_law 788 = .ok (.iaload, 1) := by decide +kernel
theorem dL_law_789 : decode cL_law 789 = .ok (.aload_n 0, 1) := by decide +kernel
theorem dL_law_790 : decode cL_law 790 = .ok (.iload_n 3, 1) := by decide +kernel
theorem dL_law_791 : decode cL_law 791 = .ok (.iconst 2, 1) := by decide +kernel
theorem dL_law_792 : decode cL_law 792 = .ok (.iadd, 1) := by decide +kernel
theorem dL_law_793 : decode cL_law 793 = .ok (.iaload, 1) := by decide +kernel
theorem dL_law_794 : decode cL_law 794 = .ok (.invokevirtual 128, 3) := by decide +kernel
theorem dL_law_797 : decode cL_law 797 = .ok (.if_icmp .eq 147, 3) := by decide +kernel
theorem dL_law_800 : decode cL_law 800 = .ok (.iconst 0, 1) := by decide +kernel
theorem dL_law_801 : decode cL_law 801 = .ok (.ireturn, 1) := by decide +kernel
theorem dL_law_802 : decode cL_law 802 = .ok (.aload_n 1, 1) := by decide +kernel
theorem dL_law_803 : decode cL_law 803 = .ok (.invokevirtual 129, 3) := by decide +kernel
theorem dL_law_806 : decode cL_law 806 = .ok (.aload_n 2, 1) := by decide +kernel
theorem dL_law_807 : decode cL_law 807 = .ok (.invokevirtual 133, 3) := by decide +kernel
theorem dL_law_810 : decode cL_law 810 = .ok (.lcmp, 1) := by decide +kernel
theorem dL_law_811 : decode cL_law 811 = .ok (.ifCond .eq 133, 3) := by decide +kernel
theorem dL_law_814 : decode cL_law 814 = .ok (.iconst 0, 1) := by decide +kernel
theorem dL_law_815 : decode cL_law 815 = .ok (.ireturn, 1) := by decide +kernel
theorem dL_law_816 : decode cL_law 816 = .ok (.aload_n 1, 1) := by decide +kernel
theorem dL_law_817 : decode cL_law 817 = .ok (.invokevirtual 134, 3) := by decide +kernel
theorem dL_law_820 : decode cL_law 820 = .ok (.aload_n 2, 1) := by decide +kernel
theorem dL_law_821 : decode cL_law 821 = .ok (.invokevirtual 137, 3) := by decide +kernel
theorem dL_law_824 : decode cL_law 824 = .ok (.if_icmp .eq 120, 3) := by decide +kernel
theorem dL_law_827 : decode cL_law 827 = .ok (.iconst 0, 1) := by decide +kernel
theorem dL_law_828 : decode cL_law 828 = .ok (.ireturn, 1) := by decide +kernel
theorem dL_law_829 : decode cL_law 829 = .ok (.aload_n 1, 1) := by decide +kernel
theorem dL_law_830 : decode cL_law 830 = .ok (.aload_n 0, 1) := by decide +kernel
theorem dL_law_831 : decode cL_law 831 = .ok (.iload_n 3, 1) := by decide +kernel
theorem dL_law_832 : decode cL_law 832 = .ok (.iconst 1, 1) := by decide +kernel
theorem dL_law_833 : decode cL_law 833 = .ok (.iadd, 1) := by decide +kernel
theorem dL_law_834 : decode cL_law 834 = .ok (.iaload, 1) := by decide +kernel
theorem dL_law_835 : decode cL_law 835 = .ok (.aload_n 0, 1) := by decide +kernel
theorem dL_law_836 : decode cL_law 836 = .ok (.iload_n 3, 1) := by decide +kernel
theorem dL_law_837 : decode cL_law 837 = .ok (.iconst 2, 1) := by decide +kernel
theorem dL_law_838 : decode cL_law 838 = .ok (.iadd, 1) := by decide +kernel
theorem dL_law_839 : decode cL_law 839 = .ok (.iaload, 1) := by decide +kernel
theorem dL_law_840 : decode cL_law 840 = .ok (.invokevirtual 138, 3) := by decide +kernel
theorem dL_law_843 : decode cL_law 843 = .ok (.aload_n 2, 1) := by decide +kernel
theorem dL_law_844 : decode cL_law 844 = .ok (.aload_n 0, 1) := by decide +kernel
theorem dL_law_845 : decode cL_law 845 = .ok (.iload_n 3, 1) := by decide +kernel
theorem dL_law_846 : decode cL_law 846 = .ok (.iconst 1, 1) := by decide +kernel
theorem dL_law_847 : decode cL_law 847 = .ok (.iadd, 1) := by decide +kernel
theorem dL_law_848 : decode cL_law 848 = .ok (.iaload, 1) := by decide +kernel
theorem dL_law_849 : decode cL_law 849 = .ok (.aload_n 0, 1) := by decide +kernel
theorem dL_law_850 : decode cL_law 850 = .ok (.iload_n 3, 1) := by decide +kernel
theorem dL_law_851 : decode cL_law 851 = .ok (.iconst 2, 1) := by decide +kernel
theorem dL_law_852 : decode cL_law 852 = .ok (.iadd, 1) := by decide +kernel
theorem dL_law_853 : decode cL_law 853 = .ok (.iaload, 1) := by decide +kernel
theorem dL_law_854 : decode cL_law 854 = .ok (.invokevirtual 141, 3) := by decide +kernel
theorem dL_law_857 : decode cL_law 857 = .ok (.if_icmp .eq 87, 3) := by decide +kernel
theorem dL_law_860 : decode cL_law 860 = .ok (.iconst 0, 1) := by decide +kernel
theorem dL_law_861 : decode cL_law 861 = .ok (.ireturn, 1) := by decide +kernel
theorem dL_law_862 : decode cL_law 862 = .ok (.aload_n 1, 1) := by decide +kernel
theorem dL_law_863 : decode cL_law 863 = .ok (.aload_n 0, 1) := by decide +kernel
theorem dL_law_864 : decode cL_law 864 = .ok (.iload_n 3, 1) := by decide +kernel
theorem dL_law_865 : decode cL_law 865 = .ok (.iconst 1, 1) := by decide +kernel
theorem dL_law_866 : decode cL_law 866 = .ok (.iadd, 1) := by decide +kernel
theorem dL_law_867 : decode cL_law 867 = .ok (.iaload, 1) := by decide +kernel
theorem dL_law_868 : decode cL_law 868 = .ok (.aload_n 0, 1) := by decide +kernel
theorem dL_law_869 : decode cL_law 869 = .ok (.iload_n 3, 1) := by decide +kernel
theorem dL_law_870 : decode cL_law 870 = .ok (.iconst 2, 1) := by decide +kernel
theorem dL_law_871 : decode cL_law 871 = .ok (.iadd, 1) := by decide +kernel
theorem dL_law_872 : decode cL_law 872 = .ok (.iaload, 1) := by decide +kernel
theorem dL_law_873 : decode cL_law 873 = .ok (.invokevirtual 142, 3) := by decide +kernel
theorem dL_law_876 : decode cL_law 876 = .ok (.aload_n 2, 1) := by decide +kernel
theorem dL_law_877 : decode cL_law 877 = .ok (.aload_n 0, 1) := by decide +kernel
theorem dL_law_878 : decode cL_law 878 = .ok (.iload_n 3, 1) := by decide +kernel
theorem dL_law_879 : decode cL_law 879 = .ok (.iconst 1, 1) := by decide +kernel
theorem dL_law_880 : decode cL_law 880 = .ok (.iadd, 1) := by decide +kernel
theorem dL_law_881 : decode cL_law 881 = .ok (.iaload, 1) := by decide +kernel
theorem dL_law_882 : decode cL_law 882 = .ok (.aload_n 0, 1) := by decide +kernel
theorem dL_law_883 : decode cL_law 883 = .ok (.iload_n 3, 1) := by decide +kernel
theorem dL_law_884 : decode cL_law 884 = .ok (.iconst 2, 1) := by decide +kernel
theorem dL_law_885 : decode cL_law 885 = .ok (.iadd, 1) := by decide +kernel
theorem dL_law_886 : decode cL_law 886 = .ok (.iaload, 1) := by decide +kernel
theorem dL_law_887 : decode cL_law 887 = .ok (.invokevirtual 145, 3) := by decide +kernel
theorem dL_law_890 : decode cL_law 890 = .ok (.if_icmp .eq 54, 3) := by decide +kernel
theorem dL_law_893 : decode cL_law 893 = .ok (.iconst 0, 1) := by decide +kernel
theorem dL_law_894 : decode cL_law 894 = .ok (.ireturn, 1) := by decide +kernel
theorem dL_law_895 : decode cL_law 895 = .ok (.aload_n 1, 1) := by decide +kernel
theorem dL_law_896 : decode cL_law 896 = .ok (.aload_n 0, 1) := by decide +kernel
theorem dL_law_897 : decode cL_law 897 = .ok (.iload_n 3, 1) := by decide +kernel
theorem dL_law_898 : decode cL_law 898 = .ok (.iconst 1, 1) := by decide +kernel
theorem dL_law_899 : decode cL_law 899 = .ok (.iadd, 1) := by decide +kernel
theorem dL_law_900 : decode cL_law 900 = .ok (.iaload, 1) := by decide +kernel
theorem dL_law_901 : decode cL_law 901 = .ok (.invokevirtual 146, 3) := by decide +kernel
theorem dL_law_904 : decode cL_law 904 = .ok (.aload_n 2, 1) := by decide +kernel
theorem dL_law_905 : decode cL_law 905 = .ok (.aload_n 0, 1) := by decide +kernel
theorem dL_law_906 : decode cL_law 906 = .ok (.iload_n 3, 1) := by decide +kernel
theorem dL_law_907 : decode cL_law 907 = .ok (.iconst 1, 1) := by decide +kernel
theorem dL_law_908 : decode cL_law 908 = .ok (.iadd, 1) := by decide +kernel
theorem dL_law_909 : decode cL_law 909 = .ok (.iaload, 1) := by decide +kernel
theorem dL_law_910 : decode cL_law 910 = .ok (.invokevirtual 149, 3) := by decide +kernel
theorem dL_law_913 : decode cL_law 913 = .ok (.if_icmp .eq 31, 3) := by decide +kernel
theorem dL_law_916 : decode cL_law 916 = .ok (.iconst 0, 1) := by decide +kernel
theorem dL_law_917 : decode cL_law 917 = .ok (.ireturn, 1) := by decide +kernel
theorem dL_law_918 : decode cL_law 918 = .ok (.aload_n 1, 1) := by decide +kernel
theorem dL_law_919 : decode cL_law 919 = .ok (.invokevirtual 150, 3) := by decide +kernel
theorem dL_law_922 : decode cL_law 922 = .ok (.aload_n 2, 1) := by decide +kernel
theorem dL_law_923 : decode cL_law 923 = .ok (.invokevirtual 153, 3) := by decide +kernel
theorem dL_law_926 : decode cL_law 926 = .ok (.if_icmp .eq 18, 3) := by decide +kernel
theorem dL_law_929 : decode cL_law 929 = .ok (.iconst 0, 1) := by decide +kernel
theorem dL_law_930 : decode cL_law 930 = .ok (.ireturn, 1) := by decide +kernel
theorem dL_law_931 : decode cL_law 931 = .ok (.aload_n 1, 1) := by decide +kernel
theorem dL_law_932 : decode cL_law 932 = .ok (.invokevirtual 154, 3) := by decide +kernel
theorem dL_law_935 : decode cL_law 935 = .ok (.aload_n 2, 1) := by decide +kernel
theorem dL_law_936 : decode cL_law 936 = .ok (.invokevirtual 157, 3) := by decide +kernel
theorem dL_law_939 : decode cL_law 939 = .ok (.if_icmp .eq 5, 3) := by decide +kernel
theorem dL_law_942 : decode cL_law 942 = .ok (.iconst 0, 1) := by decide +kernel
theorem dL_law_943 : decode cL_law 943 = .ok (.ireturn, 1) := by decide +kernel
theorem dL_law_944 : decode cL_law 944 = .ok (.iinc 3 6, 3) := by decide +kernel
theorem dL_law_947 : decode cL_law 947 = .ok (.goto (-929), 3) := by decide +kernel
theorem dL_law_950 : decode cL_law 950 = .ok (.iconst 1, 1) := by decide +kernel
theorem dL_law_951 : decode cL_law 951 = .ok (.ireturn, 1) := by decide +kernel
