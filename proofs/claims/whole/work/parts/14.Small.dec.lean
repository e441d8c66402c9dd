theorem dX0_enter_0 : decode cX0_enter 0 = .ok (.aload_n 0, 1) := by decide +kernel
theorem dX0_enter_1 : decode cX0_enter 1 = .ok (.aload_n 1, 1) := by decide +kernel
theorem dX0_enter_2 : decode cX0_enter 2 = .ok (.putfield 12, 3) := by decide +kernel
theorem dX0_enter_5 : decode cX0_enter 5 = .ok (.aload_n 1, 1) := by decide +kernel
theorem dX0_enter_6 : decode cX0_enter 6 = .ok (.getfield 22, 3) := by decide +kernel
theorem dX0_enter_9 : decode cX0_enter 9 = .ok (.iconst 0, 1) := by decide +kernel
theorem dX0_enter_10 : decode cX0_enter 10 = .ok (.aload_n 0, 1) := by decide +kernel
theorem dX0_enter_11 : decode cX0_enter 11 = .ok (.getfield 18, 3) := by decide +kernel
theorem dX0_enter_14 : decode cX0_enter 14 = .ok (.iconst 0, 1) := by decide +kernel
theorem dX0_enter_15 : decode cX0_enter 15 = .ok (.bipush 8, 2) := by decide +kernel
theorem dX0_enter_17 : decode cX0_enter 17 = .ok (.invokestatic 23, 3) := by decide +kernel
theorem dX0_enter_20 : decode cX0_enter 20 = .ok (.return_, 1) := by decide +kernel
theorem dX0_part_0 : decode cX0_part 0 = .ok (.ldc2_w 29, 3) := by decide +kernel
theorem dX0_part_3 : decode cX0_part 3 = .ok (.lstore_n 3, 1) := by decide +kernel
theorem dX0_part_4 : decode cX0_part 4 = .ok (.lload_n 0, 1) := by decide +kernel
theorem dX0_part_5 : decode cX0_part 5 = .ok (.lstore 5, 2) := by decide +kernel
theorem dX0_part_7 : decode cX0_part 7 = .ok (.iconst 0, 1) := by decide +kernel
theorem dX0_part_8 : decode cX0_part 8 = .ok (.istore 7, 2) := by decide +kernel
theorem dX0_part_10 : decode cX0_part 10 = .ok (.iload 7, 2) := by decide +kernel
theorem dX0_part_12 : decode cX0_part 12 = .ok (.bipush 100, 2) := by decide +kernel
theorem dX0_part_14 : decode cX0_part 14 = .ok (.if_icmp .ge 29, 3) := by decide +kernel
theorem dX0_part_17 : decode cX0_part 17 = .ok (.lload 5, 2) := by decide +kernel
theorem dX0_part_19 : decode cX0_part 19 = .ok (.lconst 0, 1) := by decide +kernel
theorem dX0_part_20 : decode cX0_part 20 = .ok (.lcmp, 1) := by decide +kernel
theorem dX0_part_21 : decode cX0_part 21 = .ok (.ifCond .le 22, 3) := by decide +kernel
theorem dX0_part_24 : decode cX0_part 24 = .ok (.lload_n 3, 1) := by decide +kernel
theorem dX0_part_25 : decode cX0_part 25 = .ok (.lload 5, 2) := by decide +kernel
theorem dX0_part_27 : decode cX0_part 27 = .ok (.lrem, 1) := by decide +kernel
theorem dX0_part_28 : decode cX0_part 28 = .ok (.lstore 8, 2) := by decide +kernel
theorem dX0_part_30 : decode cX0_part 30 = .ok (.lload 5, 2) := by decide +kernel
theorem dX0_part_32 : decode cX0_part 32 = .ok (.lstore_n 3, 1) := by decide +kernel
theorem dX0_part_33 : decode cX0_part 33 = .ok (.lload 8, 2) := by decide +kernel
theorem dX0_part_35 : decode cX0_part 35 = .ok (.lstore 5, 2) := by decide +kernel
theorem dX0_part_37 : decode cX0_part 37 = .ok (.iinc 7 1, 3) := by decide +kernel
theorem dX0_part_40 : decode cX0_part 40 = .ok (.goto (-30), 3) := by decide +kernel
theorem dX0_part_43 : decode cX0_part 43 = .ok (.lload_n 3, 1) := by decide +kernel
theorem dX0_part_44 : decode cX0_part 44 = .ok (.lconst 0, 1) := by decide +kernel
theorem dX0_part_45 : decode cX0_part 45 = .ok (.lcmp, 1) := by decide +kernel
theorem dX0_part_46 : decode cX0_part 46 = .ok (.ifCond .gt 7, 3) := by decide +kernel
theorem dX0_part_49 : decode cX0_part 49 = .ok (.ldc2_w 31, 3) := by decide +kernel
theorem dX0_part_52 : decode cX0_part 52 = .ok (.lreturn, 1) := by decide +kernel
theorem dX0_part_53 : decode cX0_part 53 = .ok (.iload_n 2, 1) := by decide +kernel
theorem dX0_part_54 : decode cX0_part 54 = .ok (.ifCond .eq 11, 3) := by decide +kernel
theorem dX0_part_57 : decode cX0_part 57 = .ok (.ldc2_w 29, 3) := by decide +kernel
theorem dX0_part_60 : decode cX0_part 60 = .ok (.lload_n 3, 1) := by decide +kernel
theorem dX0_part_61 : decode cX0_part 61 = .ok (.ldiv, 1) := by decide +kernel
theorem dX0_part_62 : decode cX0_part 62 = .ok (.goto 6, 3) := by decide +kernel
theorem dX0_part_65 : decode cX0_part 65 = .ok (.lload_n 0, 1) := by decide +kernel
theorem dX0_part_66 : decode cX0_part 66 = .ok (.lload_n 3, 1) := by decide +kernel
theorem dX0_part_67 : decode cX0_part 67 = .ok (.ldiv, 1) := by decide +kernel
theorem dX0_part_68 : decode cX0_part 68 = .ok (.lreturn, 1) := by decide +kernel
theorem dX0_asleep_0 : decode cX0_asleep 0 = .ok (.lconst 1, 1) := by decide +kernel
theorem dX0_asleep_1 : decode cX0_asleep 1 = .ok (.lstore_n 2, 1) := by decide +kernel
theorem dX0_asleep_2 : decode cX0_asleep 2 = .ok (.iconst 0, 1) := by decide +kernel
theorem dX0_asleep_3 : decode cX0_asleep 3 = .ok (.istore 4, 2) := by decide +kernel
theorem dX0_asleep_5 : decode cX0_asleep 5 = .ok (.iload 4, 2) := by decide +kernel
theorem dX0_asleep_7 : decode cX0_asleep 7 = .ok (.bipush 8, 2) := by decide +kernel
theorem dX0_asleep_9 : decode cX0_asleep 9 = .ok (.if_icmp .ge 69, 3) := by decide +kernel
theorem dX0_asleep_12 : decode cX0_asleep 12 = .ok (.aload_n 0, 1) := by decide +kernel
theorem dX0_asleep_13 : decode cX0_asleep 13 = .ok (.getfield 12, 3) := by decide +kernel
theorem dX0_asleep_16 : decode cX0_asleep 16 = .ok (.iload 4, 2) := by decide +kernel
theorem dX0_asleep_18 : decode cX0_asleep 18 = .ok (.invokevirtual 33, 3) := by decide +kernel
theorem dX0_asleep_21 : decode cX0_asleep 21 = .ok (.ifCond .eq 18, 3) := by decide +kernel
theorem dX0_asleep_24 : decode cX0_asleep 24 = .ok (.aload_n 0, 1) := by decide +kernel
theorem dX0_asleep_25 : decode cX0_asleep 25 = .ok (.getfield 18, 3) := by decide +kernel
theorem dX0_asleep_28 : decode cX0_asleep 28 = .ok (.iload 4, 2) := by decide +kernel
theorem dX0_asleep_30 : decode cX0_asleep 30 = .ok (.iaload, 1) := by decide +kernel
theorem dX0_asleep_31 : decode cX0_asleep 31 = .ok (.iload_n 1, 1) := by decide +kernel
theorem dX0_asleep_32 : decode cX0_asleep 32 = .ok (.if_icmp .gt 7, 3) := by decide +kernel
theorem dX0_asleep_35 : decode cX0_asleep 35 = .ok (.iconst 1, 1) := by decide +kernel
theorem dX0_asleep_36 : decode cX0_asleep 36 = .ok (.goto 4, 3) := by decide +kernel
theorem dX0_asleep_39 : decode cX0_asleep 39 = .ok (.iconst 0, 1) := by decide +kernel
theorem dX0_asleep_40 : decode cX0_asleep 40 = .ok (.istore 5, 2) := by decide +kernel
theorem dX0_asleep_42 : decode cX0_asleep 42 = .ok (.lload_n 2, 1) := by decide +kernel
theorem dX0_asleep_43 : decode cX0_asleep 43 = .ok (.iload 5, 2) := by decide +kernel
theorem dX0_asleep_45 : decode cX0_asleep 45 = .ok (.ifCond .eq 22, 3) := by decide +kernel
theorem dX0_asleep_48 : decode cX0_asleep 48 = .ok (.bipush 10, 2) := by decide +kernel
theorem dX0_asleep_50 : decode cX0_asleep 50 = .ok (.aload_n 0, 1) := by decide +kernel
theorem dX0_asleep_51 : decode cX0_asleep 51 = .ok (.getfield 12, 3) := by decide +kernel
theorem dX0_asleep_54 : decode cX0_asleep 54 = .ok (.getfield 37, 3) := by decide +kernel
theorem dX0_asleep_57 : decode cX0_asleep 57 = .ok (.iload 4, 2) := by decide +kernel
theorem dX0_asleep_59 : decode cX0_asleep 59 = .ok (.invokestatic 40, 3) := by decide +kernel
theorem dX0_asleep_62 : decode cX0_asleep 62 = .ok (.isub, 1) := by decide +kernel
theorem dX0_asleep_63 : decode cX0_asleep 63 = .ok (.i2l, 1) := by decide +kernel
theorem dX0_asleep_64 : decode cX0_asleep 64 = .ok (.goto 6, 3) := by decide +kernel
theorem dX0_asleep_67 : decode cX0_asleep 67 = .ok (.ldc2_w 44, 3) := by decide +kernel
theorem dX0_asleep_70 : decode cX0_asleep 70 = .ok (.lmul, 1) := by decide +kernel
theorem dX0_asleep_71 : decode cX0_asleep 71 = .ok (.lstore_n 2, 1) := by decide +kernel
theorem dX0_asleep_72 : decode cX0_asleep 72 = .ok (.iinc 4 1, 3) := by decide +kernel
theorem dX0_asleep_75 : decode cX0_asleep 75 = .ok (.goto (-70), 3) := by decide +kernel
theorem dX0_asleep_78 : decode cX0_asleep 78 = .ok (.lload_n 2, 1) := by decide +kernel
theorem dX0_asleep_79 : decode cX0_asleep 79 = .ok (.lreturn, 1) := by decide +kernel
theorem dX0_mean_0 : decode cX0_mean 0 = .ok (.lconst 0, 1) := by decide +kernel
theorem dX0_mean_1 : decode cX0_mean 1 = .ok (.lstore_n 1, 1) := by decide +kernel
theorem dX0_mean_2 : decode cX0_mean 2 = .ok (.iconst 0, 1) := by decide +kernel
theorem dX0_mean_3 : decode cX0_mean 3 = .ok (.istore_n 3, 1) := by decide +kernel
theorem dX0_mean_4 : decode cX0_mean 4 = .ok (.iload_n 3, 1) := by decide +kernel
theorem dX0_mean_5 : decode cX0_mean 5 = .ok (.aload_n 0, 1) := by decide +kernel
theorem dX0_mean_6 : decode cX0_mean 6 = .ok (.getfield 12, 3) := by decide +kernel
theorem dX0_mean_9 : decode cX0_mean 9 = .ok (.getfield 46, 3) := by decide +kernel
theorem dX0_mean_12 : decode cX0_mean 12 = .ok (.if_icmp .ge 34, 3) := by decide +kernel
theorem dX0_mean_15 : decode cX0_mean 15 = .ok (.lload_n 1, 1) := by decide +kernel
theorem dX0_mean_16 : decode cX0_mean 16 = .ok (.aload_n 0, 1) := by decide +kernel
theorem dX0_mean_17 : decode cX0_mean 17 = .ok (.getfield 12, 3) := by decide +kernel
theorem dX0_mean_20 : decode cX0_mean 20 = .ok (.getfield 50, 3) := by decide +kernel
theorem dX0_mean_23 : decode cX0_mean 23 = .ok (.iload_n 3, 1) := by decide +kernel
theorem dX0_mean_24 : decode cX0_mean 24 = .ok (.invokestatic 40, 3) := by decide +kernel
theorem dX0_mean_27 : decode cX0_mean 27 = .ok (.i2l, 1) := by decide +kernel
theorem dX0_mean_28 : decode cX0_mean 28 = .ok (.ldc2_w 29, 3) := by decide +kernel
theorem dX0_mean_31 : decode cX0_mean 31 = .ok (.aload_n 0, 1) := by decide +kernel
theorem dX0_mean_32 : decode cX0_mean 32 = .ok (.iload_n 3, 1) := by decide +kernel
theorem dX0_mean_33 : decode cX0_mean 33 = .ok (.invokevirtual 53, 3) := by decide +kernel
theorem dX0_mean_36 : decode cX0_mean 36 = .ok (.lsub, 1) := by decide +kernel
theorem dX0_mean_37 : decode cX0_mean 37 = .ok (.lmul, 1) := by decide +kernel
theorem dX0_mean_38 : decode cX0_mean 38 = .ok (.ladd, 1) := by decide +kernel
theorem dX0_mean_39 : decode cX0_mean 39 = .ok (.lstore_n 1, 1) := by decide +kernel
theorem dX0_mean_40 : decode cX0_mean 40 = .ok (.iinc 3 1, 3) := by decide +kernel
theorem dX0_mean_43 : decode cX0_mean 43 = .ok (.goto (-39), 3) := by decide +kernel
theorem dX0_mean_46 : decode cX0_mean 46 = .ok (.lload_n 1, 1) := by decide +kernel
theorem dX0_mean_47 : decode cX0_mean 47 = .ok (.lreturn, 1) := by decide +kernel
theorem dX0_atLeast_0 : decode cX0_atLeast 0 = .ok (.iload_n 1, 1) := by decide +kernel
theorem dX0_atLeast_1 : decode cX0_atLeast 1 = .ok (.ifCond .gt 7, 3) := by decide +kernel
theorem dX0_atLeast_4 : decode cX0_atLeast 4 = .ok (.ldc2_w 29, 3) := by decide +kernel
theorem dX0_atLeast_7 : decode cX0_atLeast 7 = .ok (.lreturn, 1) := by decide +kernel
theorem dX0_atLeast_8 : decode cX0_atLeast 8 = .ok (.aload_n 0, 1) := by decide +kernel
theorem dX0_atLeast_9 : decode cX0_atLeast 9 = .ok (.getfield 12, 3) := by decide +kernel
theorem dX0_atLeast_12 : decode cX0_atLeast 12 = .ok (.getfield 46, 3) := by decide +kernel
theorem dX0_atLeast_15 : decode cX0_atLeast 15 = .ok (.iconst 1, 1) := by decide +kernel
theorem dX0_atLeast_16 : decode cX0_atLeast 16 = .ok (.isub, 1) := by decide +kernel
theorem dX0_atLeast_17 : decode cX0_atLeast 17 = .ok (.istore_n 2, 1) := by decide +kernel
theorem dX0_atLeast_18 : decode cX0_atLeast 18 = .ok (.iload_n 2, 1) := by decide +kernel
theorem dX0_atLeast_19 : decode cX0_atLeast 19 = .ok (.ifCond .lt 38, 3) := by decide +kernel
theorem dX0_atLeast_22 : decode cX0_atLeast 22 = .ok (.aload_n 0, 1) := by decide +kernel
theorem dX0_atLeast_23 : decode cX0_atLeast 23 = .ok (.getfield 12, 3) := by decide +kernel
theorem dX0_atLeast_26 : decode cX0_atLeast 26 = .ok (.aload_n 0, 1) := by decide +kernel
theorem dX0_atLeast_27 : decode cX0_atLeast 27 = .ok (.getfield 12, 3) := by decide +kernel
theorem dX0_atLeast_30 : decode cX0_atLeast 30 = .ok (.iload_n 2, 1) := by decide +kernel
theorem dX0_atLeast_31 : decode cX0_atLeast 31 = .ok (.invokevirtual 57, 3) := by decide +kernel
theorem dX0_atLeast_34 : decode cX0_atLeast 34 = .ok (.invokevirtual 61, 3) := by decide +kernel
theorem dX0_atLeast_37 : decode cX0_atLeast 37 = .ok (.iload_n 1, 1) := by decide +kernel
theorem dX0_atLeast_38 : decode cX0_atLeast 38 = .ok (.if_icmp .lt 13, 3) := by decide +kernel
theorem dX0_atLeast_41 : decode cX0_atLeast 41 = .ok (.ldc2_w 29, 3) := by decide +kernel
theorem dX0_atLeast_44 : decode cX0_atLeast 44 = .ok (.aload_n 0, 1) := by decide +kernel
theorem dX0_atLeast_45 : decode cX0_atLeast 45 = .ok (.iload_n 2, 1) := by decide +kernel
theorem dX0_atLeast_46 : decode cX0_atLeast 46 = .ok (.invokevirtual 53, 3) := by decide +kernel
theorem dX0_atLeast_49 : decode cX0_atLeast 49 = .ok (.lsub, 1) := by decide +kernel
theorem dX0_atLeast_50 : decode cX0_atLeast 50 = .ok (.lreturn, 1) := by decide +kernel
theorem dX0_atLeast_51 : decode cX0_atLeast 51 = .ok (.iinc 2 (-1), 3) := by decide +kernel
theorem dX0_atLeast_54 : decode cX0_atLeast 54 = .ok (.goto (-36), 3) := by decide +kernel
theorem dX0_atLeast_57 : decode cX0_atLeast 57 = .ok (.lconst 0, 1) := by decide +kernel
theorem dX0_atLeast_58 : decode cX0_atLeast 58 = .ok (.lreturn, 1) := by decide +kernel
theorem dX0_swap_0 : decode cX0_swap 0 = .ok (.iload_n 1, 1) := by decide +kernel
theorem dX0_swap_1 : decode cX0_swap 1 = .ok (.ifCond .lt 45, 3) := by decide +kernel
theorem dX0_swap_4 : decode cX0_swap 4 = .ok (.iload_n 1, 1) := by decide +kernel
theorem dX0_swap_5 : decode cX0_swap 5 = .ok (.bipush 8, 2) := by decide +kernel
theorem dX0_swap_7 : decode cX0_swap 7 = .ok (.if_icmp .ge 39, 3) := by decide +kernel
theorem dX0_swap_10 : decode cX0_swap 10 = .ok (.iload_n 2, 1) := by decide +kernel
theorem dX0_swap_11 : decode cX0_swap 11 = .ok (.ifCond .lt 35, 3) := by decide +kernel
theorem dX0_swap_14 : decode cX0_swap 14 = .ok (.iload_n 2, 1) := by decide +kernel
theorem dX0_swap_15 : decode cX0_swap 15 = .ok (.bipush 8, 2) := by decide +kernel
theorem dX0_swap_17 : decode cX0_swap 17 = .ok (.if_icmp .ge 29, 3) := by decide +kernel
theorem dX0_swap_20 : decode cX0_swap 20 = .ok (.aload_n 0, 1) := by decide +kernel
theorem dX0_swap_21 : decode cX0_swap 21 = .ok (.getfield 18, 3) := by decide +kernel
theorem dX0_swap_24 : decode cX0_swap 24 = .ok (.iload_n 1, 1) := by decide +kernel
theorem dX0_swap_25 : decode cX0_swap 25 = .ok (.iaload, 1) := by decide +kernel
theorem dX0_swap_26 : decode cX0_swap 26 = .ok (.istore_n 3, 1) := by decide +kernel
theorem dX0_swap_27 : decode cX0_swap 27 = .ok (.aload_n 0, 1) := by decide +kernel
theorem dX0_swap_28 : decode cX0_swap 28 = .ok (.getfield 18, 3) := by decide +kernel
theorem dX0_swap_31 : decode cX0_swap 31 = .ok (.iload_n 1, 1) := by decide +kernel
theorem dX0_swap_32 : decode cX0_swap 32 = .ok (.aload_n 0, 1) := by decide +kernel
theorem dX0_swap_33 : decode cX0_swap 33 = .ok (.getfield 18, 3) := by decide +kernel
theorem dX0_swap_36 : decode cX0_swap 36 = .ok (.iload_n 2, 1) := by decide +kernel
theorem dX0_swap_37 : decode cX0_swap 37 = .ok (.iaload, 1) := by decide +kernel
theorem dX0_swap_38 : decode cX0_swap 38 = .ok (.iastore, 1) := by decide +kernel
theorem dX0_swap_39 : decode cX0_swap 39 = .ok (.aload_n 0, 1) := by decide +kernel
theorem dX0_swap_40 : decode cX0_swap 40 = .ok (.getfield 18, 3) := by decide +kernel
theorem dX0_swap_43 : decode cX0_swap 43 = .ok (.iload_n 2, 1) := by decide +kernel
theorem dX0_swap_44 : decode cX0_swap 44 = .ok (.iload_n 3, 1) := by decide +kernel
theorem dX0_swap_45 : decode cX0_swap 45 = .ok (.iastore, 1) := by decide +kernel
theorem dX0_swap_46 : decode cX0_swap 46 = .ok (.return_, 1) := by decide +kernel
theorem dX0_bestSwap_0 : decode cX0_bestSwap 0 = .ok (.aload_n 0, 1) := by decide +kernel
theorem dX0_bestSwap_1 : decode cX0_bestSwap 1 = .ok (.invokevirtual 64, 3) := by decide +kernel
theorem dX0_bestSwap_4 : decode cX0_bestSwap 4 = .ok (.lstore_n 1, 1) := by decide +kernel
theorem dX0_bestSwap_5 : decode cX0_bestSwap 5 = .ok (.iconst (-1), 1) := by decide +kernel
theorem dX0_bestSwap_6 : decode cX0_bestSwap 6 = .ok (.istore_n 3, 1) := by decide +kernel
theorem dX0_bestSwap_7 : decode cX0_bestSwap 7 = .ok (.iconst 0, 1) := by decide +kernel
theorem dX0_bestSwap_8 : decode cX0_bestSwap 8 = .ok (.istore 4, 2) := by decide +kernel
theorem dX0_bestSwap_10 : decode cX0_bestSwap 10 = .ok (.iload 4, 2) := by decide +kernel
theorem dX0_bestSwap_12 : decode cX0_bestSwap 12 = .ok (.aload_n 0, 1) := by decide +kernel
theorem dX0_bestSwap_13 : decode cX0_bestSwap 13 = .ok (.getfield 12, 3) := by decide +kernel
theorem dX0_bestSwap_16 : decode cX0_bestSwap 16 = .ok (.getfield 68, 3) := by decide +kernel
theorem dX0_bestSwap_19 : decode cX0_bestSwap 19 = .ok (.if_icmp .ge 74, 3) := by decide +kernel
theorem dX0_bestSwap_22 : decode cX0_bestSwap 22 = .ok (.iload 4, 2) := by decide +kernel
theorem dX0_bestSwap_24 : decode cX0_bestSwap 24 = .ok (.iconst 1, 1) := by decide +kernel
theorem dX0_bestSwap_25 : decode cX0_bestSwap 25 = .ok (.iadd, 1) := by decide +kernel
theorem dX0_bestSwap_26 : decode cX0_bestSwap 26 = .ok (.istore 5, 2) := by decide +kernel
theorem dX0_bestSwap_28 : decode cX0_bestSwap 28 = .ok (.iload 5, 2) := by decide +kernel
theorem dX0_bestSwap_30 : decode cX0_bestSwap 30 = .ok (.aload_n 0, 1) := by decide +kernel
theorem dX0_bestSwap_31 : decode cX0_bestSwap 31 = .ok (.getfield 12, 3) := by decide +kernel
theorem dX0_bestSwap_34 : decode cX0_bestSwap 34 = .ok (.getfield 68, 3) := by decide +kernel
theorem dX0_bestSwap_37 : decode cX0_bestSwap 37 = .ok (.if_icmp .ge 50, 3) := by decide +kernel
theorem dX0_bestSwap_40 : decode cX0_bestSwap 40 = .ok (.aload_n 0, 1) := by decide +kernel
theorem dX0_bestSwap_41 : decode cX0_bestSwap 41 = .ok (.iload 4, 2) := by decide +kernel
theorem dX0_bestSwap_43 : decode cX0_bestSwap 43 = .ok (.iload 5, 2) := by decide +kernel
theorem dX0_bestSwap_45 : decode cX0_bestSwap 45 = .ok (.invokevirtual 71, 3) := by decide +kernel
theorem dX0_bestSwap_48 : decode cX0_bestSwap 48 = .ok (.aload_n 0, 1) := by decide +kernel
theorem dX0_bestSwap_49 : decode cX0_bestSwap 49 = .ok (.invokevirtual 64, 3) := by decide +kernel
theorem dX0_bestSwap_52 : decode cX0_bestSwap 52 = .ok (.lstore 6, 2) := by decide +kernel
theorem dX0_bestSwap_54 : decode cX0_bestSwap 54 = .ok (.aload_n 0, 1) := by decide +kernel
theorem dX0_bestSwap_55 : decode cX0_bestSwap 55 = .ok (.iload 4, 2) := by decide +kernel
theorem dX0_bestSwap_57 : decode cX0_bestSwap 57 = .ok (.iload 5, 2) := by decide +kernel
theorem dX0_bestSwap_59 : decode cX0_bestSwap 59 = .ok (.invokevirtual 71, 3) := by decide +kernel
theorem dX0_bestSwap_62 : decode cX0_bestSwap 62 = .ok (.lload 6, 2) := by decide +kernel
theorem dX0_bestSwap_64 : decode cX0_bestSwap 64 = .ok (.lload_n 1, 1) := by decide +kernel
theorem dX0_bestSwap_65 : decode cX0_bestSwap 65 = .ok (.lcmp, 1) := by decide +kernel
theorem dX0_bestSwap_66 : decode cX0_bestSwap 66 = .ok (.ifCond .ge 15, 3) := by decide +kernel
theorem dX0_bestSwap_69 : decode cX0_bestSwap 69 = .ok (.lload 6, 2) := by decide +kernel
theorem dX0_bestSwap_71 : decode cX0_bestSwap 71 = .ok (.lstore_n 1, 1) := by decide +kernel
theorem dX0_bestSwap_72 : decode cX0_bestSwap 72 = .ok (.bipush 10, 2) := by decide +kernel
theorem dX0_bestSwap_74 : decode cX0_bestSwap 74 = .ok (.iload 4, 2) := by decide +kernel
theorem dX0_bestSwap_76 : decode cX0_bestSwap 76 = .ok (.imul, 1) := by decide +kernel
theorem dX0_bestSwap_77 : decode cX0_bestSwap 77 = .ok (.iload 5, 2) := by decide +kernel
theorem dX0_bestSwap_79 : decode cX0_bestSwap 79 = .ok (.iadd, 1) := by decide +kernel
theorem dX0_bestSwap_80 : decode cX0_bestSwap 80 = .ok (.istore_n 3, 1) := by decide +kernel
theorem dX0_bestSwap_81 : decode cX0_bestSwap 81 = .ok (.iinc 5 1, 3) := by decide +kernel
theorem dX0_bestSwap_84 : decode cX0_bestSwap 84 = .ok (.goto (-56), 3) := by decide +kernel
theorem dX0_bestSwap_87 : decode cX0_bestSwap 87 = .ok (.iinc 4 1, 3) := by decide +kernel
theorem dX0_bestSwap_90 : decode cX0_bestSwap 90 = .ok (.goto (-80), 3) := by decide +kernel
theorem dX0_bestSwap_93 : decode cX0_bestSwap 93 = .ok (.iload_n 3, 1) := by decide +kernel
theorem dX0_bestSwap_94 : decode cX0_bestSwap 94 = .ok (.ireturn, 1) := by decide +kernel
theorem dX8_isWalled_0 : decode cX8_isWalled 0 = .ok (.aload_n 0, 1) := by decide +kernel
theorem dX8_isWalled_1 : decode cX8_isWalled 1 = .ok (.getfield 12, 3) := by decide +kernel
theorem dX8_isWalled_4 : decode cX8_isWalled 4 = .ok (.getfield 42, 3) := by decide +kernel
theorem dX8_isWalled_7 : decode cX8_isWalled 7 = .ok (.iload_n 1, 1) := by decide +kernel
theorem dX8_isWalled_8 : decode cX8_isWalled 8 = .ok (.ishr, 1) := by decide +kernel
theorem dX8_isWalled_9 : decode cX8_isWalled 9 = .ok (.iconst 1, 1) := by decide +kernel
theorem dX8_isWalled_10 : decode cX8_isWalled 10 = .ok (.iand, 1) := by decide +kernel
theorem dX8_isWalled_11 : decode cX8_isWalled 11 = .ok (.ifCond .eq 7, 3) := by decide +kernel
theorem dX8_isWalled_14 : decode cX8_isWalled 14 = .ok (.iconst 1, 1) := by decide +kernel
theorem dX8_isWalled_15 : decode cX8_isWalled 15 = .ok (.goto 4, 3) := by decide +kernel
theorem dX8_isWalled_18 : decode cX8_isWalled 18 = .ok (.iconst 0, 1) := by decide +kernel
theorem dX8_isWalled_19 : decode cX8_isWalled 19 = .ok (.ireturn, 1) := by decide +kernel
theorem dX8_free_0 : decode cX8_free 0 = .ok (.iconst 0, 1) := by decide +kernel
theorem dX8_free_1 : decode cX8_free 1 = .ok (.istore_n 1, 1) := by decide +kernel
theorem dX8_free_2 : decode cX8_free 2 = .ok (.iload_n 1, 1) := by decide +kernel
theorem dX8_free_3 : decode cX8_free 3 = .ok (.bipush 8, 2) := by decide +kernel
theorem dX8_free_5 : decode cX8_free 5 = .ok (.if_icmp .ge 38, 3) := by decide +kernel
theorem dX8_free_8 : decode cX8_free 8 = .ok (.aload_n 0, 1) := by decide +kernel
theorem dX8_free_9 : decode cX8_free 9 = .ok (.getfield 18, 3) := by decide +kernel
theorem dX8_free_12 : decode cX8_free 12 = .ok (.iload_n 1, 1) := by decide +kernel
theorem dX8_free_13 : decode cX8_free 13 = .ok (.aload_n 0, 1) := by decide +kernel
theorem dX8_free_14 : decode cX8_free 14 = .ok (.iload_n 1, 1) := by decide +kernel
theorem dX8_free_15 : decode cX8_free 15 = .ok (.invokevirtual 31, 3) := by decide +kernel
theorem dX8_free_18 : decode cX8_free 18 = .ok (.ifCond .eq 7, 3) := by decide +kernel
theorem dX8_free_21 : decode cX8_free 21 = .ok (.iconst 0, 1) := by decide +kernel
theorem dX8_free_22 : decode cX8_free 22 = .ok (.goto 14, 3) := by decide +kernel
theorem dX8_free_25 : decode cX8_free 25 = .ok (.aload_n 0, 1) := by decide +kernel
theorem dX8_free_26 : decode cX8_free 26 = .ok (.getfield 12, 3) := by decide +kernel
theorem dX8_free_29 : decode cX8_free 29 = .ok (.getfield 35, 3) := by decide +kernel
theorem dX8_free_32 : decode cX8_free 32 = .ok (.iload_n 1, 1) := by decide +kernel
theorem dX8_free_33 : decode cX8_free 33 = .ok (.invokestatic 38, 3) := by decide +kernel
theorem dX8_free_36 : decode cX8_free 36 = .ok (.iastore, 1) := by decide +kernel
theorem dX8_free_37 : decode cX8_free 37 = .ok (.iinc 1 1, 3) := by decide +kernel
theorem dX8_free_40 : decode cX8_free 40 = .ok (.goto (-38), 3) := by decide +kernel
theorem dX8_free_43 : decode cX8_free 43 = .ok (.return_, 1) := by decide +kernel
theorem dX8_enter_0 : decode cX8_enter 0 = .ok (.aload_n 0, 1) := by decide +kernel
theorem dX8_enter_1 : decode cX8_enter 1 = .ok (.aload_n 1, 1) := by decide +kernel
theorem dX8_enter_2 : decode cX8_enter 2 = .ok (.putfield 12, 3) := by decide +kernel
theorem dX8_enter_5 : decode cX8_enter 5 = .ok (.aload_n 0, 1) := by decide +kernel
theorem dX8_enter_6 : decode cX8_enter 6 = .ok (.invokevirtual 28, 3) := by decide +kernel
theorem dX8_enter_9 : decode cX8_enter 9 = .ok (.return_, 1) := by decide +kernel
theorem dX8_waysNear_0 : decode cX8_waysNear 0 = .ok (.iconst 0, 1) := by decide +kernel
theorem dX8_waysNear_1 : decode cX8_waysNear 1 = .ok (.istore_n 2, 1) := by decide +kernel
theorem dX8_waysNear_2 : decode cX8_waysNear 2 = .ok (.iconst 1, 1) := by decide +kernel
theorem dX8_waysNear_3 : decode cX8_waysNear 3 = .ok (.istore_n 3, 1) := by decide +kernel
theorem dX8_waysNear_4 : decode cX8_waysNear 4 = .ok (.iload_n 3, 1) := by decide +kernel
theorem dX8_waysNear_5 : decode cX8_waysNear 5 = .ok (.bipush 9, 2) := by decide +kernel
theorem dX8_waysNear_7 : decode cX8_waysNear 7 = .ok (.if_icmp .gt 38, 3) := by decide +kernel
theorem dX8_waysNear_10 : decode cX8_waysNear 10 = .ok (.iload_n 2, 1) := by decide +kernel
theorem dX8_waysNear_11 : decode cX8_waysNear 11 = .ok (.iload_n 3, 1) := by decide +kernel
theorem dX8_waysNear_12 : decode cX8_waysNear 12 = .ok (.iload_n 1, 1) := by decide +kernel
theorem dX8_waysNear_13 : decode cX8_waysNear 13 = .ok (.isub, 1) := by decide +kernel
theorem dX8_waysNear_14 : decode cX8_waysNear 14 = .ok (.invokestatic 66, 3) := by decide +kernel
theorem dX8_waysNear_17 : decode cX8_waysNear 17 = .ok (.aload_n 0, 1) := by decide +kernel
theorem dX8_waysNear_18 : decode cX8_waysNear 18 = .ok (.getfield 12, 3) := by decide +kernel
theorem dX8_waysNear_21 : decode cX8_waysNear 21 = .ok (.getfield 71, 3) := by decide +kernel
theorem dX8_waysNear_24 : decode cX8_waysNear 24 = .ok (.if_icmp .gt 12, 3) := by decide +kernel
theorem dX8_waysNear_27 : decode cX8_waysNear 27 = .ok (.aload_n 0, 1) := by decide +kernel
theorem dX8_waysNear_28 : decode cX8_waysNear 28 = .ok (.getfield 22, 3) := by decide +kernel
theorem dX8_waysNear_31 : decode cX8_waysNear 31 = .ok (.iload_n 3, 1) := by decide +kernel
theorem dX8_waysNear_32 : decode cX8_waysNear 32 = .ok (.iaload, 1) := by decide +kernel
theorem dX8_waysNear_33 : decode cX8_waysNear 33 = .ok (.goto 4, 3) := by decide +kernel
theorem dX8_waysNear_36 : decode cX8_waysNear 36 = .ok (.iconst 0, 1) := by decide +kernel
theorem dX8_waysNear_37 : decode cX8_waysNear 37 = .ok (.iadd, 1) := by decide +kernel
theorem dX8_waysNear_38 : decode cX8_waysNear 38 = .ok (.istore_n 2, 1) := by decide +kernel
theorem dX8_waysNear_39 : decode cX8_waysNear 39 = .ok (.iinc 3 1, 3) := by decide +kernel
theorem dX8_waysNear_42 : decode cX8_waysNear 42 = .ok (.goto (-38), 3) := by decide +kernel
theorem dX8_waysNear_45 : decode cX8_waysNear 45 = .ok (.iload_n 2, 1) := by decide +kernel
theorem dX8_waysNear_46 : decode cX8_waysNear 46 = .ok (.ireturn, 1) := by decide +kernel
theorem dX8_goTo_0 : decode cX8_goTo 0 = .ok (.iconst 0, 1) := by decide +kernel
theorem dX8_goTo_1 : decode cX8_goTo 1 = .ok (.istore 4, 2) := by decide +kernel
theorem dX8_goTo_3 : decode cX8_goTo 3 = .ok (.iconst 1, 1) := by decide +kernel
theorem dX8_goTo_4 : decode cX8_goTo 4 = .ok (.istore 5, 2) := by decide +kernel
theorem dX8_goTo_6 : decode cX8_goTo 6 = .ok (.iload 5, 2) := by decide +kernel
theorem dX8_goTo_8 : decode cX8_goTo 8 = .ok (.bipush 9, 2) := by decide +kernel
theorem dX8_goTo_10 : decode cX8_goTo 10 = .ok (.if_icmp .gt 82, 3) := by decide +kernel
theorem dX8_goTo_13 : decode cX8_goTo 13 = .ok (.aload_n 0, 1) := by decide +kernel
theorem dX8_goTo_14 : decode cX8_goTo 14 = .ok (.getfield 18, 3) := by decide +kernel
theorem dX8_goTo_17 : decode cX8_goTo 17 = .ok (.iload_n 1, 1) := by decide +kernel
theorem dX8_goTo_18 : decode cX8_goTo 18 = .ok (.invokestatic 38, 3) := by decide +kernel
theorem dX8_goTo_21 : decode cX8_goTo 21 = .ok (.ifCond .eq 16, 3) := by decide +kernel
theorem dX8_goTo_24 : decode cX8_goTo 24 = .ok (.aload_n 0, 1) := by decide +kernel
theorem dX8_goTo_25 : decode cX8_goTo 25 = .ok (.getfield 18, 3) := by decide +kernel
theorem dX8_goTo_28 : decode cX8_goTo 28 = .ok (.iload_n 1, 1) := by decide +kernel
theorem dX8_goTo_29 : decode cX8_goTo 29 = .ok (.invokestatic 38, 3) := by decide +kernel
theorem dX8_goTo_32 : decode cX8_goTo 32 = .ok (.iload 5, 2) := by decide +kernel
theorem dX8_goTo_34 : decode cX8_goTo 34 = .ok (.if_icmp .ne 7, 3) := by decide +kernel
theorem dX8_goTo_37 : decode cX8_goTo 37 = .ok (.iconst 1, 1) := by decide +kernel
theorem dX8_goTo_38 : decode cX8_goTo 38 = .ok (.goto 4, 3) := by decide +kernel
theorem dX8_goTo_41 : decode cX8_goTo 41 = .ok (.iconst 0, 1) := by decide +kernel
theorem dX8_goTo_42 : decode cX8_goTo 42 = .ok (.istore 6, 2) := by decide +kernel
theorem dX8_goTo_44 : decode cX8_goTo 44 = .ok (.aload_n 0, 1) := by decide +kernel
theorem dX8_goTo_45 : decode cX8_goTo 45 = .ok (.getfield 25, 3) := by decide +kernel
theorem dX8_goTo_48 : decode cX8_goTo 48 = .ok (.iload 5, 2) := by decide +kernel
theorem dX8_goTo_50 : decode cX8_goTo 50 = .ok (.iload 6, 2) := by decide +kernel
theorem dX8_goTo_52 : decode cX8_goTo 52 = .ok (.ifCond .ne 7, 3) := by decide +kernel
theorem dX8_goTo_55 : decode cX8_goTo 55 = .ok (.iconst 0, 1) := by decide +kernel
theorem dX8_goTo_56 : decode cX8_goTo 56 = .ok (.goto 17, 3) := by decide +kernel
theorem dX8_goTo_59 : decode cX8_goTo 59 = .ok (.iload_n 2, 1) := by decide +kernel
theorem dX8_goTo_60 : decode cX8_goTo 60 = .ok (.ifCond .eq 12, 3) := by decide +kernel
theorem dX8_goTo_63 : decode cX8_goTo 63 = .ok (.aload_n 0, 1) := by decide +kernel
theorem dX8_goTo_64 : decode cX8_goTo 64 = .ok (.iload 5, 2) := by decide +kernel
theorem dX8_goTo_66 : decode cX8_goTo 66 = .ok (.invokevirtual 56, 3) := by decide +kernel
theorem dX8_goTo_69 : decode cX8_goTo 69 = .ok (.goto 4, 3) := by decide +kernel
theorem dX8_goTo_72 : decode cX8_goTo 72 = .ok (.iload_n 3, 1) := by decide +kernel
theorem dX8_goTo_73 : decode cX8_goTo 73 = .ok (.iastore, 1) := by decide +kernel
theorem dX8_goTo_74 : decode cX8_goTo 74 = .ok (.iload 4, 2) := by decide +kernel
theorem dX8_goTo_76 : decode cX8_goTo 76 = .ok (.aload_n 0, 1) := by decide +kernel
theorem dX8_goTo_77 : decode cX8_goTo 77 = .ok (.getfield 25, 3) := by decide +kernel
theorem dX8_goTo_80 : decode cX8_goTo 80 = .ok (.iload 5, 2) := by decide +kernel
theorem dX8_goTo_82 : decode cX8_goTo 82 = .ok (.iaload, 1) := by decide +kernel
theorem dX8_goTo_83 : decode cX8_goTo 83 = .ok (.iadd, 1) := by decide +kernel
theorem dX8_goTo_84 : decode cX8_goTo 84 = .ok (.istore 4, 2) := by decide +kernel
theorem dX8_goTo_86 : decode cX8_goTo 86 = .ok (.iinc 5 1, 3) := by decide +kernel
theorem dX8_goTo_89 : decode cX8_goTo 89 = .ok (.goto (-83), 3) := by decide +kernel
theorem dX8_goTo_92 : decode cX8_goTo 92 = .ok (.aload_n 0, 1) := by decide +kernel
theorem dX8_goTo_93 : decode cX8_goTo 93 = .ok (.getfield 25, 3) := by decide +kernel
theorem dX8_goTo_96 : decode cX8_goTo 96 = .ok (.iconst 0, 1) := by decide +kernel
theorem dX8_goTo_97 : decode cX8_goTo 97 = .ok (.aload_n 0, 1) := by decide +kernel
theorem dX8_goTo_98 : decode cX8_goTo 98 = .ok (.getfield 22, 3) := by decide +kernel
theorem dX8_goTo_101 : decode cX8_goTo 101 = .ok (.iconst 0, 1) := by decide +kernel
theorem dX8_goTo_102 : decode cX8_goTo 102 = .ok (.bipush 10, 2) := by decide +kernel
theorem dX8_goTo_104 : decode cX8_goTo 104 = .ok (.invokestatic 60, 3) := by decide +kernel
theorem dX8_goTo_107 : decode cX8_goTo 107 = .ok (.iload 4, 2) := by decide +kernel
theorem dX8_goTo_109 : decode cX8_goTo 109 = .ok (.ireturn, 1) := by decide +kernel
theorem dX8_rows_0 : decode cX8_rows 0 = .ok (.iconst 1, 1) := by decide +kernel
theorem dX8_rows_1 : decode cX8_rows 1 = .ok (.istore_n 1, 1) := by decide +kernel
theorem dX8_rows_2 : decode cX8_rows 2 = .ok (.iconst 0, 1) := by decide +kernel
theorem dX8_rows_3 : decode cX8_rows 3 = .ok (.istore_n 2, 1) := by decide +kernel
theorem dX8_rows_4 : decode cX8_rows 4 = .ok (.iconst 0, 1) := by decide +kernel
theorem dX8_rows_5 : decode cX8_rows 5 = .ok (.istore_n 3, 1) := by decide +kernel
theorem dX8_rows_6 : decode cX8_rows 6 = .ok (.iload_n 3, 1) := by decide +kernel
theorem dX8_rows_7 : decode cX8_rows 7 = .ok (.aload_n 0, 1) := by decide +kernel
theorem dX8_rows_8 : decode cX8_rows 8 = .ok (.getfield 12, 3) := by decide +kernel
theorem dX8_rows_11 : decode cX8_rows 11 = .ok (.getfield 46, 3) := by decide +kernel
theorem dX8_rows_14 : decode cX8_rows 14 = .ok (.if_icmp .ge 57, 3) := by decide +kernel
theorem dX8_rows_17 : decode cX8_rows 17 = .ok (.iload_n 3, 1) := by decide +kernel
theorem dX8_rows_18 : decode cX8_rows 18 = .ok (.bipush 8, 2) := by decide +kernel
theorem dX8_rows_20 : decode cX8_rows 20 = .ok (.if_icmp .ge 51, 3) := by decide +kernel
theorem dX8_rows_23 : decode cX8_rows 23 = .ok (.aload_n 0, 1) := by decide +kernel
theorem dX8_rows_24 : decode cX8_rows 24 = .ok (.iload_n 3, 1) := by decide +kernel
theorem dX8_rows_25 : decode cX8_rows 25 = .ok (.invokevirtual 31, 3) := by decide +kernel
theorem dX8_rows_28 : decode cX8_rows 28 = .ok (.ifCond .ne 14, 3) := by decide +kernel
theorem dX8_rows_31 : decode cX8_rows 31 = .ok (.aload_n 0, 1) := by decide +kernel
theorem dX8_rows_32 : decode cX8_rows 32 = .ok (.getfield 12, 3) := by decide +kernel
theorem dX8_rows_35 : decode cX8_rows 35 = .ok (.iload_n 3, 1) := by decide +kernel
theorem dX8_rows_36 : decode cX8_rows 36 = .ok (.invokevirtual 49, 3) := by decide +kernel
theorem dX8_rows_39 : decode cX8_rows 39 = .ok (.ifCond .eq 7, 3) := by decide +kernel
theorem dX8_rows_42 : decode cX8_rows 42 = .ok (.iconst 1, 1) := by decide +kernel
theorem dX8_rows_43 : decode cX8_rows 43 = .ok (.goto 4, 3) := by decide +kernel
theorem dX8_rows_46 : decode cX8_rows 46 = .ok (.iconst 0, 1) := by decide +kernel
theorem dX8_rows_47 : decode cX8_rows 47 = .ok (.istore 4, 2) := by decide +kernel
theorem dX8_rows_49 : decode cX8_rows 49 = .ok (.iload 4, 2) := by decide +kernel
theorem dX8_rows_51 : decode cX8_rows 51 = .ok (.ifCond .eq 11, 3) := by decide +kernel
theorem dX8_rows_54 : decode cX8_rows 54 = .ok (.aload_n 0, 1) := by decide +kernel
theorem dX8_rows_55 : decode cX8_rows 55 = .ok (.iload_n 3, 1) := by decide +kernel
theorem dX8_rows_56 : decode cX8_rows 56 = .ok (.iload_n 2, 1) := by decide +kernel
theorem dX8_rows_57 : decode cX8_rows 57 = .ok (.iload_n 1, 1) := by decide +kernel
theorem dX8_rows_58 : decode cX8_rows 58 = .ok (.invokevirtual 52, 3) := by decide +kernel
theorem dX8_rows_61 : decode cX8_rows 61 = .ok (.istore_n 1, 1) := by decide +kernel
theorem dX8_rows_62 : decode cX8_rows 62 = .ok (.iload 4, 2) := by decide +kernel
theorem dX8_rows_64 : decode cX8_rows 64 = .ok (.istore_n 2, 1) := by decide +kernel
theorem dX8_rows_65 : decode cX8_rows 65 = .ok (.iinc 3 1, 3) := by decide +kernel
theorem dX8_rows_68 : decode cX8_rows 68 = .ok (.goto (-62), 3) := by decide +kernel
theorem dX8_rows_71 : decode cX8_rows 71 = .ok (.iload_n 1, 1) := by decide +kernel
theorem dX8_rows_72 : decode cX8_rows 72 = .ok (.ireturn, 1) := by decide +kernel
theorem dX8_lowest_0 : decode cX8_lowest 0 = .ok (.iload_n 1, 1) := by decide +kernel
theorem dX8_lowest_1 : decode cX8_lowest 1 = .ok (.ifCond .lt 9, 3) := by decide +kernel
theorem dX8_lowest_4 : decode cX8_lowest 4 = .ok (.iload_n 1, 1) := by decide +kernel
theorem dX8_lowest_5 : decode cX8_lowest 5 = .ok (.bipush 8, 2) := by decide +kernel
theorem dX8_lowest_7 : decode cX8_lowest 7 = .ok (.if_icmp .lt 5, 3) := by decide +kernel
theorem dX8_lowest_10 : decode cX8_lowest 10 = .ok (.iconst (-1), 1) := by decide +kernel
theorem dX8_lowest_11 : decode cX8_lowest 11 = .ok (.ireturn, 1) := by decide +kernel
theorem dX8_lowest_12 : decode cX8_lowest 12 = .ok (.iconst 1, 1) := by decide +kernel
theorem dX8_lowest_13 : decode cX8_lowest 13 = .ok (.istore_n 2, 1) := by decide +kernel
theorem dX8_lowest_14 : decode cX8_lowest 14 = .ok (.iload_n 2, 1) := by decide +kernel
theorem dX8_lowest_15 : decode cX8_lowest 15 = .ok (.bipush 9, 2) := by decide +kernel
theorem dX8_lowest_17 : decode cX8_lowest 17 = .ok (.if_icmp .gt 25, 3) := by decide +kernel
theorem dX8_lowest_20 : decode cX8_lowest 20 = .ok (.aload_n 0, 1) := by decide +kernel
theorem dX8_lowest_21 : decode cX8_lowest 21 = .ok (.getfield 18, 3) := by decide +kernel
theorem dX8_lowest_24 : decode cX8_lowest 24 = .ok (.iload_n 1, 1) := by decide +kernel
theorem dX8_lowest_25 : decode cX8_lowest 25 = .ok (.iload_n 2, 1) := by decide +kernel
theorem dX8_lowest_26 : decode cX8_lowest 26 = .ok (.iastore, 1) := by decide +kernel
theorem dX8_lowest_27 : decode cX8_lowest 27 = .ok (.aload_n 0, 1) := by decide +kernel
theorem dX8_lowest_28 : decode cX8_lowest 28 = .ok (.invokevirtual 81, 3) := by decide +kernel
theorem dX8_lowest_31 : decode cX8_lowest 31 = .ok (.ifCond .le 5, 3) := by decide +kernel
theorem dX8_lowest_34 : decode cX8_lowest 34 = .ok (.iload_n 2, 1) := by decide +kernel
theorem dX8_lowest_35 : decode cX8_lowest 35 = .ok (.ireturn, 1) := by decide +kernel
theorem dX8_lowest_36 : decode cX8_lowest 36 = .ok (.iinc 2 1, 3) := by decide +kernel
theorem dX8_lowest_39 : decode cX8_lowest 39 = .ok (.goto (-25), 3) := by decide +kernel
theorem dX8_lowest_42 : decode cX8_lowest 42 = .ok (.iconst (-1), 1) := by decide +kernel
theorem dX8_lowest_43 : decode cX8_lowest 43 = .ok (.ireturn, 1) := by decide +kernel
theorem dX8_leastOf_0 : decode cX8_leastOf 0 = .ok (.iconst (-1), 1) := by decide +kernel
theorem dX8_leastOf_1 : decode cX8_leastOf 1 = .ok (.istore_n 2, 1) := by decide +kernel
theorem dX8_leastOf_2 : decode cX8_leastOf 2 = .ok (.iconst 0, 1) := by decide +kernel
theorem dX8_leastOf_3 : decode cX8_leastOf 3 = .ok (.istore_n 3, 1) := by decide +kernel
theorem dX8_leastOf_4 : decode cX8_leastOf 4 = .ok (.iload_n 3, 1) := by decide +kernel
theorem dX8_leastOf_5 : decode cX8_leastOf 5 = .ok (.iload_n 1, 1) := by decide +kernel
theorem dX8_leastOf_6 : decode cX8_leastOf 6 = .ok (.if_icmp .gt 31, 3) := by decide +kernel
theorem dX8_leastOf_9 : decode cX8_leastOf 9 = .ok (.iload_n 3, 1) := by decide +kernel
theorem dX8_leastOf_10 : decode cX8_leastOf 10 = .ok (.bipush 8, 2) := by decide +kernel
theorem dX8_leastOf_12 : decode cX8_leastOf 12 = .ok (.if_icmp .ge 25, 3) := by decide +kernel
theorem dX8_leastOf_15 : decode cX8_leastOf 15 = .ok (.aload_n 0, 1) := by decide +kernel
theorem dX8_leastOf_16 : decode cX8_leastOf 16 = .ok (.aload_n 0, 1) := by decide +kernel
theorem dX8_leastOf_17 : decode cX8_leastOf 17 = .ok (.getfield 12, 3) := by decide +kernel
theorem dX8_leastOf_20 : decode cX8_leastOf 20 = .ok (.getfield 42, 3) := by decide +kernel
theorem dX8_leastOf_23 : decode cX8_leastOf 23 = .ok (.iload_n 3, 1) := by decide +kernel
theorem dX8_leastOf_24 : decode cX8_leastOf 24 = .ok (.invokestatic 74, 3) := by decide +kernel
theorem dX8_leastOf_27 : decode cX8_leastOf 27 = .ok (.invokevirtual 78, 3) := by decide +kernel
theorem dX8_leastOf_30 : decode cX8_leastOf 30 = .ok (.istore_n 2, 1) := by decide +kernel
theorem dX8_leastOf_31 : decode cX8_leastOf 31 = .ok (.iinc 3 1, 3) := by decide +kernel
theorem dX8_leastOf_34 : decode cX8_leastOf 34 = .ok (.goto (-30), 3) := by decide +kernel
theorem dX8_leastOf_37 : decode cX8_leastOf 37 = .ok (.aload_n 0, 1) := by decide +kernel
theorem dX8_leastOf_38 : decode cX8_leastOf 38 = .ok (.invokevirtual 28, 3) := by decide +kernel
theorem dX8_leastOf_41 : decode cX8_leastOf 41 = .ok (.iload_n 2, 1) := by decide +kernel
theorem dX8_leastOf_42 : decode cX8_leastOf 42 = .ok (.ireturn, 1) := by decide +kernel
theorem dX8_sureOf_0 : decode cX8_sureOf 0 = .ok (.aload_n 0, 1) := by decide +kernel
theorem dX8_sureOf_1 : decode cX8_sureOf 1 = .ok (.getfield 12, 3) := by decide +kernel
theorem dX8_sureOf_4 : decode cX8_sureOf 4 = .ok (.getfield 42, 3) := by decide +kernel
theorem dX8_sureOf_7 : decode cX8_sureOf 7 = .ok (.iload_n 1, 1) := by decide +kernel
theorem dX8_sureOf_8 : decode cX8_sureOf 8 = .ok (.invokestatic 74, 3) := by decide +kernel
theorem dX8_sureOf_11 : decode cX8_sureOf 11 = .ok (.istore_n 2, 1) := by decide +kernel
theorem dX8_sureOf_12 : decode cX8_sureOf 12 = .ok (.iload_n 2, 1) := by decide +kernel
theorem dX8_sureOf_13 : decode cX8_sureOf 13 = .ok (.ifCond .lt 9, 3) := by decide +kernel
theorem dX8_sureOf_16 : decode cX8_sureOf 16 = .ok (.iload_n 2, 1) := by decide +kernel
theorem dX8_sureOf_17 : decode cX8_sureOf 17 = .ok (.bipush 8, 2) := by decide +kernel
theorem dX8_sureOf_19 : decode cX8_sureOf 19 = .ok (.if_icmp .lt 5, 3) := by decide +kernel
theorem dX8_sureOf_22 : decode cX8_sureOf 22 = .ok (.iconst (-1), 1) := by decide +kernel
theorem dX8_sureOf_23 : decode cX8_sureOf 23 = .ok (.ireturn, 1) := by decide +kernel
theorem dX8_sureOf_24 : decode cX8_sureOf 24 = .ok (.iconst (-1), 1) := by decide +kernel
theorem dX8_sureOf_25 : decode cX8_sureOf 25 = .ok (.istore_n 3, 1) := by decide +kernel
theorem dX8_sureOf_26 : decode cX8_sureOf 26 = .ok (.iconst 0, 1) := by decide +kernel
theorem dX8_sureOf_27 : decode cX8_sureOf 27 = .ok (.istore 4, 2) := by decide +kernel
theorem dX8_sureOf_29 : decode cX8_sureOf 29 = .ok (.iconst 1, 1) := by decide +kernel
theorem dX8_sureOf_30 : decode cX8_sureOf 30 = .ok (.istore 5, 2) := by decide +kernel
theorem dX8_sureOf_32 : decode cX8_sureOf 32 = .ok (.iload 5, 2) := by decide +kernel
theorem dX8_sureOf_34 : decode cX8_sureOf 34 = .ok (.bipush 9, 2) := by decide +kernel
theorem dX8_sureOf_36 : decode cX8_sureOf 36 = .ok (.if_icmp .gt 30, 3) := by decide +kernel
theorem dX8_sureOf_39 : decode cX8_sureOf 39 = .ok (.aload_n 0, 1) := by decide +kernel
theorem dX8_sureOf_40 : decode cX8_sureOf 40 = .ok (.getfield 18, 3) := by decide +kernel
theorem dX8_sureOf_43 : decode cX8_sureOf 43 = .ok (.iload_n 2, 1) := by decide +kernel
theorem dX8_sureOf_44 : decode cX8_sureOf 44 = .ok (.iload 5, 2) := by decide +kernel
theorem dX8_sureOf_46 : decode cX8_sureOf 46 = .ok (.iastore, 1) := by decide +kernel
theorem dX8_sureOf_47 : decode cX8_sureOf 47 = .ok (.aload_n 0, 1) := by decide +kernel
theorem dX8_sureOf_48 : decode cX8_sureOf 48 = .ok (.invokevirtual 81, 3) := by decide +kernel
theorem dX8_sureOf_51 : decode cX8_sureOf 51 = .ok (.ifCond .le 9, 3) := by decide +kernel
theorem dX8_sureOf_54 : decode cX8_sureOf 54 = .ok (.iload 5, 2) := by decide +kernel
theorem dX8_sureOf_56 : decode cX8_sureOf 56 = .ok (.istore_n 3, 1) := by decide +kernel
theorem dX8_sureOf_57 : decode cX8_sureOf 57 = .ok (.iinc 4 1, 3) := by decide +kernel
theorem dX8_sureOf_60 : decode cX8_sureOf 60 = .ok (.iinc 5 1, 3) := by decide +kernel
theorem dX8_sureOf_63 : decode cX8_sureOf 63 = .ok (.goto (-31), 3) := by decide +kernel
theorem dX8_sureOf_66 : decode cX8_sureOf 66 = .ok (.aload_n 0, 1) := by decide +kernel
theorem dX8_sureOf_67 : decode cX8_sureOf 67 = .ok (.invokevirtual 28, 3) := by decide +kernel
theorem dX8_sureOf_70 : decode cX8_sureOf 70 = .ok (.iload 4, 2) := by decide +kernel
theorem dX8_sureOf_72 : decode cX8_sureOf 72 = .ok (.iconst 1, 1) := by decide +kernel
theorem dX8_sureOf_73 : decode cX8_sureOf 73 = .ok (.if_icmp .ne 7, 3) := by decide +kernel
theorem dX8_sureOf_76 : decode cX8_sureOf 76 = .ok (.iload_n 3, 1) := by decide +kernel
theorem dX8_sureOf_77 : decode cX8_sureOf 77 = .ok (.goto 4, 3) := by decide +kernel
theorem dX8_sureOf_80 : decode cX8_sureOf 80 = .ok (.iconst (-1), 1) := by decide +kernel
theorem dX8_sureOf_81 : decode cX8_sureOf 81 = .ok (.ireturn, 1) := by decide +kernel
theorem dX9_awakeNow_0 : decode cX9_awakeNow 0 = .ok (.iconst 0, 1) := by decide +kernel
theorem dX9_awakeNow_1 : decode cX9_awakeNow 1 = .ok (.istore_n 1, 1) := by decide +kernel
theorem dX9_awakeNow_2 : decode cX9_awakeNow 2 = .ok (.iconst 0, 1) := by decide +kernel
theorem dX9_awakeNow_3 : decode cX9_awakeNow 3 = .ok (.istore_n 2, 1) := by decide +kernel
theorem dX9_awakeNow_4 : decode cX9_awakeNow 4 = .ok (.iload_n 2, 1) := by decide +kernel
theorem dX9_awakeNow_5 : decode cX9_awakeNow 5 = .ok (.bipush 8, 2) := by decide +kernel
theorem dX9_awakeNow_7 : decode cX9_awakeNow 7 = .ok (.if_icmp .ge 41, 3) := by decide +kernel
theorem dX9_awakeNow_10 : decode cX9_awakeNow 10 = .ok (.aload_n 0, 1) := by decide +kernel
theorem dX9_awakeNow_11 : decode cX9_awakeNow 11 = .ok (.getfield 22, 3) := by decide +kernel
theorem dX9_awakeNow_14 : decode cX9_awakeNow 14 = .ok (.iload_n 2, 1) := by decide +kernel
theorem dX9_awakeNow_15 : decode cX9_awakeNow 15 = .ok (.ishr, 1) := by decide +kernel
theorem dX9_awakeNow_16 : decode cX9_awakeNow 16 = .ok (.iconst 1, 1) := by decide +kernel
theorem dX9_awakeNow_17 : decode cX9_awakeNow 17 = .ok (.iand, 1) := by decide +kernel
theorem dX9_awakeNow_18 : decode cX9_awakeNow 18 = .ok (.ifCond .eq 24, 3) := by decide +kernel
theorem dX9_awakeNow_21 : decode cX9_awakeNow 21 = .ok (.iload_n 1, 1) := by decide +kernel
theorem dX9_awakeNow_22 : decode cX9_awakeNow 22 = .ok (.aload_n 0, 1) := by decide +kernel
theorem dX9_awakeNow_23 : decode cX9_awakeNow 23 = .ok (.getfield 12, 3) := by decide +kernel
theorem dX9_awakeNow_26 : decode cX9_awakeNow 26 = .ok (.aload_n 0, 1) := by decide +kernel
theorem dX9_awakeNow_27 : decode cX9_awakeNow 27 = .ok (.getfield 12, 3) := by decide +kernel
theorem dX9_awakeNow_30 : decode cX9_awakeNow 30 = .ok (.getfield 69, 3) := by decide +kernel
theorem dX9_awakeNow_33 : decode cX9_awakeNow 33 = .ok (.iload_n 2, 1) := by decide +kernel
theorem dX9_awakeNow_34 : decode cX9_awakeNow 34 = .ok (.invokestatic 55, 3) := by decide +kernel
theorem dX9_awakeNow_37 : decode cX9_awakeNow 37 = .ok (.invokevirtual 72, 3) := by decide +kernel
theorem dX9_awakeNow_40 : decode cX9_awakeNow 40 = .ok (.ior, 1) := by decide +kernel
theorem dX9_awakeNow_41 : decode cX9_awakeNow 41 = .ok (.istore_n 1, 1) := by decide +kernel
theorem dX9_awakeNow_42 : decode cX9_awakeNow 42 = .ok (.iinc 2 1, 3) := by decide +kernel
theorem dX9_awakeNow_45 : decode cX9_awakeNow 45 = .ok (.goto (-41), 3) := by decide +kernel
theorem dX9_awakeNow_48 : decode cX9_awakeNow 48 = .ok (.iload_n 1, 1) := by decide +kernel
theorem dX9_awakeNow_49 : decode cX9_awakeNow 49 = .ok (.ireturn, 1) := by decide +kernel
theorem dX9_houseFrom_0 : decode cX9_houseFrom 0 = .ok (.iload_n 1, 1) := by decide +kernel
theorem dX9_houseFrom_1 : decode cX9_houseFrom 1 = .ok (.aload_n 0, 1) := by decide +kernel
theorem dX9_houseFrom_2 : decode cX9_houseFrom 2 = .ok (.getfield 18, 3) := by decide +kernel
theorem dX9_houseFrom_5 : decode cX9_houseFrom 5 = .ok (.if_icmp .lt 5, 3) := by decide +kernel
theorem dX9_houseFrom_8 : decode cX9_houseFrom 8 = .ok (.iconst 0, 1) := by decide +kernel
theorem dX9_houseFrom_9 : decode cX9_houseFrom 9 = .ok (.ireturn, 1) := by decide +kernel
theorem dX9_houseFrom_10 : decode cX9_houseFrom 10 = .ok (.aload_n 0, 1) := by decide +kernel
theorem dX9_houseFrom_11 : decode cX9_houseFrom 11 = .ok (.invokevirtual 59, 3) := by decide +kernel
theorem dX9_houseFrom_14 : decode cX9_houseFrom 14 = .ok (.istore_n 2, 1) := by decide +kernel
theorem dX9_houseFrom_15 : decode cX9_houseFrom 15 = .ok (.aload_n 0, 1) := by decide +kernel
theorem dX9_houseFrom_16 : decode cX9_houseFrom 16 = .ok (.iload_n 1, 1) := by decide +kernel
theorem dX9_houseFrom_17 : decode cX9_houseFrom 17 = .ok (.iconst 1, 1) := by decide +kernel
theorem dX9_houseFrom_18 : decode cX9_houseFrom 18 = .ok (.iadd, 1) := by decide +kernel
theorem dX9_houseFrom_19 : decode cX9_houseFrom 19 = .ok (.invokevirtual 40, 3) := by decide +kernel
theorem dX9_houseFrom_22 : decode cX9_houseFrom 22 = .ok (.istore_n 3, 1) := by decide +kernel
theorem dX9_houseFrom_23 : decode cX9_houseFrom 23 = .ok (.iconst 0, 1) := by decide +kernel
theorem dX9_houseFrom_24 : decode cX9_houseFrom 24 = .ok (.istore 4, 2) := by decide +kernel
theorem dX9_houseFrom_26 : decode cX9_houseFrom 26 = .ok (.iload 4, 2) := by decide +kernel
theorem dX9_houseFrom_28 : decode cX9_houseFrom 28 = .ok (.aload_n 0, 1) := by decide +kernel
theorem dX9_houseFrom_29 : decode cX9_houseFrom 29 = .ok (.getfield 12, 3) := by decide +kernel
theorem dX9_houseFrom_32 : decode cX9_houseFrom 32 = .ok (.getfield 63, 3) := by decide +kernel
theorem dX9_houseFrom_35 : decode cX9_houseFrom 35 = .ok (.if_icmp .ge 83, 3) := by decide +kernel
theorem dX9_houseFrom_38 : decode cX9_houseFrom 38 = .ok (.iload_n 2, 1) := by decide +kernel
theorem dX9_houseFrom_39 : decode cX9_houseFrom 39 = .ok (.iload 4, 2) := by decide +kernel
theorem dX9_houseFrom_41 : decode cX9_houseFrom 41 = .ok (.ishr, 1) := by decide +kernel
theorem dX9_houseFrom_42 : decode cX9_houseFrom 42 = .ok (.iconst 1, 1) := by decide +kernel
theorem dX9_houseFrom_43 : decode cX9_houseFrom 43 = .ok (.iand, 1) := by decide +kernel
theorem dX9_houseFrom_44 : decode cX9_houseFrom 44 = .ok (.ifCond .eq 68, 3) := by decide +kernel
theorem dX9_houseFrom_47 : decode cX9_houseFrom 47 = .ok (.aload_n 0, 1) := by decide +kernel
theorem dX9_houseFrom_48 : decode cX9_houseFrom 48 = .ok (.getfield 25, 3) := by decide +kernel
theorem dX9_houseFrom_51 : decode cX9_houseFrom 51 = .ok (.iload 4, 2) := by decide +kernel
theorem dX9_houseFrom_53 : decode cX9_houseFrom 53 = .ok (.ishr, 1) := by decide +kernel
theorem dX9_houseFrom_54 : decode cX9_houseFrom 54 = .ok (.iconst 1, 1) := by decide +kernel
theorem dX9_houseFrom_55 : decode cX9_houseFrom 55 = .ok (.iand, 1) := by decide +kernel
theorem dX9_houseFrom_56 : decode cX9_houseFrom 56 = .ok (.ifCond .ne 56, 3) := by decide +kernel
theorem dX9_houseFrom_59 : decode cX9_houseFrom 59 = .ok (.aload_n 0, 1) := by decide +kernel
theorem dX9_houseFrom_60 : decode cX9_houseFrom 60 = .ok (.dup, 1) := by decide +kernel
theorem dX9_houseFrom_61 : decode cX9_houseFrom 61 = .ok (.getfield 25, 3) := by decide +kernel
theorem dX9_houseFrom_64 : decode cX9_houseFrom 64 = .ok (.iconst 1, 1) := by decide +kernel
theorem dX9_houseFrom_65 : decode cX9_houseFrom 65 = .ok (.iload 4, 2) := by decide +kernel
theorem dX9_houseFrom_67 : decode cX9_houseFrom 67 = .ok (.ishl, 1) := by decide +kernel
theorem dX9_houseFrom_68 : decode cX9_houseFrom 68 = .ok (.ior, 1) := by decide +kernel
theorem dX9_houseFrom_69 : decode cX9_houseFrom 69 = .ok (.putfield 25, 3) := by decide +kernel
theorem dX9_houseFrom_72 : decode cX9_houseFrom 72 = .ok (.iload_n 3, 1) := by decide +kernel
theorem dX9_houseFrom_73 : decode cX9_houseFrom 73 = .ok (.aload_n 0, 1) := by decide +kernel
theorem dX9_houseFrom_74 : decode cX9_houseFrom 74 = .ok (.iload_n 1, 1) := by decide +kernel
theorem dX9_houseFrom_75 : decode cX9_houseFrom 75 = .ok (.iconst 1, 1) := by decide +kernel
theorem dX9_houseFrom_76 : decode cX9_houseFrom 76 = .ok (.iadd, 1) := by decide +kernel
theorem dX9_houseFrom_77 : decode cX9_houseFrom 77 = .ok (.invokevirtual 40, 3) := by decide +kernel
theorem dX9_houseFrom_80 : decode cX9_houseFrom 80 = .ok (.aload_n 0, 1) := by decide +kernel
theorem dX9_houseFrom_81 : decode cX9_houseFrom 81 = .ok (.getfield 12, 3) := by decide +kernel
theorem dX9_houseFrom_84 : decode cX9_houseFrom 84 = .ok (.getfield 66, 3) := by decide +kernel
theorem dX9_houseFrom_87 : decode cX9_houseFrom 87 = .ok (.iload 4, 2) := by decide +kernel
theorem dX9_houseFrom_89 : decode cX9_houseFrom 89 = .ok (.invokestatic 55, 3) := by decide +kernel
theorem dX9_houseFrom_92 : decode cX9_houseFrom 92 = .ok (.isub, 1) := by decide +kernel
theorem dX9_houseFrom_93 : decode cX9_houseFrom 93 = .ok (.invokestatic 34, 3) := by decide +kernel
theorem dX9_houseFrom_96 : decode cX9_houseFrom 96 = .ok (.istore_n 3, 1) := by decide +kernel
theorem dX9_houseFrom_97 : decode cX9_houseFrom 97 = .ok (.aload_n 0, 1) := by decide +kernel
theorem dX9_houseFrom_98 : decode cX9_houseFrom 98 = .ok (.dup, 1) := by decide +kernel
theorem dX9_houseFrom_99 : decode cX9_houseFrom 99 = .ok (.getfield 25, 3) := by decide +kernel
theorem dX9_houseFrom_102 : decode cX9_houseFrom 102 = .ok (.iconst 1, 1) := by decide +kernel
theorem dX9_houseFrom_103 : decode cX9_houseFrom 103 = .ok (.iload 4, 2) := by decide +kernel
theorem dX9_houseFrom_105 : decode cX9_houseFrom 105 = .ok (.ishl, 1) := by decide +kernel
theorem dX9_houseFrom_106 : decode cX9_houseFrom 106 = .ok (.iconst (-1), 1) := by decide +kernel
theorem dX9_houseFrom_107 : decode cX9_houseFrom 107 = .ok (.ixor, 1) := by decide +kernel
theorem dX9_houseFrom_108 : decode cX9_houseFrom 108 = .ok (.iand, 1) := by decide +kernel
theorem dX9_houseFrom_109 : decode cX9_houseFrom 109 = .ok (.putfield 25, 3) := by decide +kernel
theorem dX9_houseFrom_112 : decode cX9_houseFrom 112 = .ok (.iinc 4 1, 3) := by decide +kernel
theorem dX9_houseFrom_115 : decode cX9_houseFrom 115 = .ok (.goto (-89), 3) := by decide +kernel
theorem dX9_houseFrom_118 : decode cX9_houseFrom 118 = .ok (.iload_n 3, 1) := by decide +kernel
theorem dX9_houseFrom_119 : decode cX9_houseFrom 119 = .ok (.ireturn, 1) := by decide +kernel
theorem dX9_landlordFrom_0 : decode cX9_landlordFrom 0 = .ok (.iload_n 1, 1) := by decide +kernel
theorem dX9_landlordFrom_1 : decode cX9_landlordFrom 1 = .ok (.aload_n 0, 1) := by decide +kernel
theorem dX9_landlordFrom_2 : decode cX9_landlordFrom 2 = .ok (.getfield 18, 3) := by decide +kernel
theorem dX9_landlordFrom_5 : decode cX9_landlordFrom 5 = .ok (.if_icmp .lt 5, 3) := by decide +kernel
theorem dX9_landlordFrom_8 : decode cX9_landlordFrom 8 = .ok (.iconst 0, 1) := by decide +kernel
theorem dX9_landlordFrom_9 : decode cX9_landlordFrom 9 = .ok (.ireturn, 1) := by decide +kernel
theorem dX9_landlordFrom_10 : decode cX9_landlordFrom 10 = .ok (.aload_n 0, 1) := by decide +kernel
theorem dX9_landlordFrom_11 : decode cX9_landlordFrom 11 = .ok (.iload_n 1, 1) := by decide +kernel
theorem dX9_landlordFrom_12 : decode cX9_landlordFrom 12 = .ok (.iconst 1, 1) := by decide +kernel
theorem dX9_landlordFrom_13 : decode cX9_landlordFrom 13 = .ok (.iadd, 1) := by decide +kernel
theorem dX9_landlordFrom_14 : decode cX9_landlordFrom 14 = .ok (.invokevirtual 44, 3) := by decide +kernel
theorem dX9_landlordFrom_17 : decode cX9_landlordFrom 17 = .ok (.istore_n 2, 1) := by decide +kernel
theorem dX9_landlordFrom_18 : decode cX9_landlordFrom 18 = .ok (.bipush 8, 2) := by decide +kernel
theorem dX9_landlordFrom_20 : decode cX9_landlordFrom 20 = .ok (.istore_n 3, 1) := by decide +kernel
theorem dX9_landlordFrom_21 : decode cX9_landlordFrom 21 = .ok (.bipush 7, 2) := by decide +kernel
theorem dX9_landlordFrom_23 : decode cX9_landlordFrom 23 = .ok (.istore 4, 2) := by decide +kernel
theorem dX9_landlordFrom_25 : decode cX9_landlordFrom 25 = .ok (.iload 4, 2) := by decide +kernel
theorem dX9_landlordFrom_27 : decode cX9_landlordFrom 27 = .ok (.ifCond .lt 95, 3) := by decide +kernel
theorem dX9_landlordFrom_30 : decode cX9_landlordFrom 30 = .ok (.aload_n 0, 1) := by decide +kernel
theorem dX9_landlordFrom_31 : decode cX9_landlordFrom 31 = .ok (.getfield 12, 3) := by decide +kernel
theorem dX9_landlordFrom_34 : decode cX9_landlordFrom 34 = .ok (.iload 4, 2) := by decide +kernel
theorem dX9_landlordFrom_36 : decode cX9_landlordFrom 36 = .ok (.invokevirtual 47, 3) := by decide +kernel
theorem dX9_landlordFrom_39 : decode cX9_landlordFrom 39 = .ok (.ifCond .eq 77, 3) := by decide +kernel
theorem dX9_landlordFrom_42 : decode cX9_landlordFrom 42 = .ok (.aload_n 0, 1) := by decide +kernel
theorem dX9_landlordFrom_43 : decode cX9_landlordFrom 43 = .ok (.getfield 22, 3) := by decide +kernel
theorem dX9_landlordFrom_46 : decode cX9_landlordFrom 46 = .ok (.iload 4, 2) := by decide +kernel
theorem dX9_landlordFrom_48 : decode cX9_landlordFrom 48 = .ok (.ishr, 1) := by decide +kernel
theorem dX9_landlordFrom_49 : decode cX9_landlordFrom 49 = .ok (.iconst 1, 1) := by decide +kernel
theorem dX9_landlordFrom_50 : decode cX9_landlordFrom 50 = .ok (.iand, 1) := by decide +kernel
theorem dX9_landlordFrom_51 : decode cX9_landlordFrom 51 = .ok (.ifCond .ne 65, 3) := by decide +kernel
theorem dX9_landlordFrom_54 : decode cX9_landlordFrom 54 = .ok (.aload_n 0, 1) := by decide +kernel
theorem dX9_landlordFrom_55 : decode cX9_landlordFrom 55 = .ok (.dup, 1) := by decide +kernel
theorem dX9_landlordFrom_56 : decode cX9_landlordFrom 56 = .ok (.getfield 22, 3) := by decide +kernel
theorem dX9_landlordFrom_59 : decode cX9_landlordFrom 59 = .ok (.iconst 1, 1) := by decide +kernel
theorem dX9_landlordFrom_60 : decode cX9_landlordFrom 60 = .ok (.iload 4, 2) := by decide +kernel
theorem dX9_landlordFrom_62 : decode cX9_landlordFrom 62 = .ok (.ishl, 1) := by decide +kernel
theorem dX9_landlordFrom_63 : decode cX9_landlordFrom 63 = .ok (.ior, 1) := by decide +kernel
theorem dX9_landlordFrom_64 : decode cX9_landlordFrom 64 = .ok (.putfield 22, 3) := by decide +kernel
theorem dX9_landlordFrom_67 : decode cX9_landlordFrom 67 = .ok (.aload_n 0, 1) := by decide +kernel
theorem dX9_landlordFrom_68 : decode cX9_landlordFrom 68 = .ok (.getfield 12, 3) := by decide +kernel
theorem dX9_landlordFrom_71 : decode cX9_landlordFrom 71 = .ok (.getfield 51, 3) := by decide +kernel
theorem dX9_landlordFrom_74 : decode cX9_landlordFrom 74 = .ok (.iload 4, 2) := by decide +kernel
theorem dX9_landlordFrom_76 : decode cX9_landlordFrom 76 = .ok (.invokestatic 55, 3) := by decide +kernel
theorem dX9_landlordFrom_79 : decode cX9_landlordFrom 79 = .ok (.aload_n 0, 1) := by decide +kernel
theorem dX9_landlordFrom_80 : decode cX9_landlordFrom 80 = .ok (.iload_n 1, 1) := by decide +kernel
theorem dX9_landlordFrom_81 : decode cX9_landlordFrom 81 = .ok (.iconst 1, 1) := by decide +kernel
theorem dX9_landlordFrom_82 : decode cX9_landlordFrom 82 = .ok (.iadd, 1) := by decide +kernel
theorem dX9_landlordFrom_83 : decode cX9_landlordFrom 83 = .ok (.invokevirtual 44, 3) := by decide +kernel
theorem dX9_landlordFrom_86 : decode cX9_landlordFrom 86 = .ok (.iadd, 1) := by decide +kernel
theorem dX9_landlordFrom_87 : decode cX9_landlordFrom 87 = .ok (.istore 5, 2) := by decide +kernel
theorem dX9_landlordFrom_89 : decode cX9_landlordFrom 89 = .ok (.aload_n 0, 1) := by decide +kernel
theorem dX9_landlordFrom_90 : decode cX9_landlordFrom 90 = .ok (.dup, 1) := by decide +kernel
theorem dX9_landlordFrom_91 : decode cX9_landlordFrom 91 = .ok (.getfield 22, 3) := by decide +kernel
theorem dX9_landlordFrom_94 : decode cX9_landlordFrom 94 = .ok (.iconst 1, 1) := by decide +kernel
theorem dX9_landlordFrom_95 : decode cX9_landlordFrom 95 = .ok (.iload 4, 2) := by decide +kernel
theorem dX9_landlordFrom_97 : decode cX9_landlordFrom 97 = .ok (.ishl, 1) := by decide +kernel
theorem dX9_landlordFrom_98 : decode cX9_landlordFrom 98 = .ok (.iconst (-1), 1) := by decide +kernel
theorem dX9_landlordFrom_99 : decode cX9_landlordFrom 99 = .ok (.ixor, 1) := by decide +kernel
theorem dX9_landlordFrom_100 : decode cX9_landlordFrom 100 = .ok (.iand, 1) := by decide +kernel
theorem dX9_landlordFrom_101 : decode cX9_landlordFrom 101 = .ok (.putfield 22, 3) := by decide +kernel
theorem dX9_landlordFrom_104 : decode cX9_landlordFrom 104 = .ok (.iload 5, 2) := by decide +kernel
theorem dX9_landlordFrom_106 : decode cX9_landlordFrom 106 = .ok (.iload_n 2, 1) := by decide +kernel
theorem dX9_landlordFrom_107 : decode cX9_landlordFrom 107 = .ok (.if_icmp .lt 9, 3) := by decide +kernel
theorem dX9_landlordFrom_110 : decode cX9_landlordFrom 110 = .ok (.iload 5, 2) := by decide +kernel
theorem dX9_landlordFrom_112 : decode cX9_landlordFrom 112 = .ok (.istore_n 2, 1) := by decide +kernel
theorem dX9_landlordFrom_113 : decode cX9_landlordFrom 113 = .ok (.iload 4, 2) := by decide +kernel
theorem dX9_landlordFrom_115 : decode cX9_landlordFrom 115 = .ok (.istore_n 3, 1) := by decide +kernel
theorem dX9_landlordFrom_116 : decode cX9_landlordFrom 116 = .ok (.iinc 4 (-1), 3) := by decide +kernel
theorem dX9_landlordFrom_119 : decode cX9_landlordFrom 119 = .ok (.goto (-94), 3) := by decide +kernel
theorem dX9_landlordFrom_122 : decode cX9_landlordFrom 122 = .ok (.iload_n 1, 1) := by decide +kernel
theorem dX9_landlordFrom_123 : decode cX9_landlordFrom 123 = .ok (.ifCond .ne 8, 3) := by decide +kernel
theorem dX9_landlordFrom_126 : decode cX9_landlordFrom 126 = .ok (.aload_n 0, 1) := by decide +kernel
theorem dX9_landlordFrom_127 : decode cX9_landlordFrom 127 = .ok (.iload_n 3, 1) := by decide +kernel
theorem dX9_landlordFrom_128 : decode cX9_landlordFrom 128 = .ok (.putfield 31, 3) := by decide +kernel
theorem dX9_landlordFrom_131 : decode cX9_landlordFrom 131 = .ok (.iload_n 2, 1) := by decide +kernel
theorem dX9_landlordFrom_132 : decode cX9_landlordFrom 132 = .ok (.ireturn, 1) := by decide +kernel
theorem dX9_play_0 : decode cX9_play 0 = .ok (.aload_n 0, 1) := by decide +kernel
theorem dX9_play_1 : decode cX9_play 1 = .ok (.aload_n 1, 1) := by decide +kernel
theorem dX9_play_2 : decode cX9_play 2 = .ok (.putfield 12, 3) := by decide +kernel
theorem dX9_play_5 : decode cX9_play 5 = .ok (.aload_n 0, 1) := by decide +kernel
theorem dX9_play_6 : decode cX9_play 6 = .ok (.iload_n 2, 1) := by decide +kernel
theorem dX9_play_7 : decode cX9_play 7 = .ok (.iconst 4, 1) := by decide +kernel
theorem dX9_play_8 : decode cX9_play 8 = .ok (.invokestatic 34, 3) := by decide +kernel
theorem dX9_play_11 : decode cX9_play 11 = .ok (.putfield 18, 3) := by decide +kernel
theorem dX9_play_14 : decode cX9_play 14 = .ok (.aload_n 0, 1) := by decide +kernel
theorem dX9_play_15 : decode cX9_play 15 = .ok (.iconst 0, 1) := by decide +kernel
theorem dX9_play_16 : decode cX9_play 16 = .ok (.putfield 22, 3) := by decide +kernel
theorem dX9_play_19 : decode cX9_play 19 = .ok (.aload_n 0, 1) := by decide +kernel
theorem dX9_play_20 : decode cX9_play 20 = .ok (.iconst 0, 1) := by decide +kernel
theorem dX9_play_21 : decode cX9_play 21 = .ok (.putfield 25, 3) := by decide +kernel
theorem dX9_play_24 : decode cX9_play 24 = .ok (.aload_n 0, 1) := by decide +kernel
theorem dX9_play_25 : decode cX9_play 25 = .ok (.iconst (-1), 1) := by decide +kernel
theorem dX9_play_26 : decode cX9_play 26 = .ok (.putfield 31, 3) := by decide +kernel
theorem dX9_play_29 : decode cX9_play 29 = .ok (.aload_n 0, 1) := by decide +kernel
theorem dX9_play_30 : decode cX9_play 30 = .ok (.aload_n 0, 1) := by decide +kernel
theorem dX9_play_31 : decode cX9_play 31 = .ok (.iconst 0, 1) := by decide +kernel
theorem dX9_play_32 : decode cX9_play 32 = .ok (.invokevirtual 40, 3) := by decide +kernel
theorem dX9_play_35 : decode cX9_play 35 = .ok (.putfield 28, 3) := by decide +kernel
theorem dX9_play_38 : decode cX9_play 38 = .ok (.return_, 1) := by decide +kernel
