theorem dX11_floorsAsTold_0 : decode cX11_floorsAsTold 0 = .ok (.iconst 0, 1) := by decide +kernel
theorem dX11_floorsAsTold_1 : decode cX11_floorsAsTold 1 = .ok (.istore_n 1, 1) := by decide +kernel
theorem dX11_floorsAsTold_2 : decode cX11_floorsAsTold 2 = .ok (.iload_n 1, 1) := by decide +kernel
theorem dX11_floorsAsTold_3 : decode cX11_floorsAsTold 3 = .ok (.aload_n 0, 1) := by decide +kernel
theorem dX11_floorsAsTold_4 : decode cX11_floorsAsTold 4 = .ok (.getfield 188, 3) := by decide +kernel
theorem dX11_floorsAsTold_7 : decode cX11_floorsAsTold 7 = .ok (.if_icmp .ge 20, 3) := by decide +kernel
theorem dX11_floorsAsTold_10 : decode cX11_floorsAsTold 10 = .ok (.aload_n 0, 1) := by decide +kernel
theorem dX11_floorsAsTold_11 : decode cX11_floorsAsTold 11 = .ok (.getfield 35, 3) := by decide +kernel
theorem dX11_floorsAsTold_14 : decode cX11_floorsAsTold 14 = .ok (.iload_n 1, 1) := by decide +kernel
theorem dX11_floorsAsTold_15 : decode cX11_floorsAsTold 15 = .ok (.aload_n 0, 1) := by decide +kernel
theorem dX11_floorsAsTold_16 : decode cX11_floorsAsTold 16 = .ok (.iload_n 1, 1) := by decide +kernel
theorem dX11_floorsAsTold_17 : decode cX11_floorsAsTold 17 = .ok (.invokevirtual 265, 3) := by decide +kernel
theorem dX11_floorsAsTold_20 : decode cX11_floorsAsTold 20 = .ok (.iastore, 1) := by decide +kernel
theorem dX11_floorsAsTold_21 : decode cX11_floorsAsTold 21 = .ok (.iinc 1 1, 3) := by decide +kernel
theorem dX11_floorsAsTold_24 : decode cX11_floorsAsTold 24 = .ok (.goto (-22), 3) := by decide +kernel
theorem dX11_floorsAsTold_27 : decode cX11_floorsAsTold 27 = .ok (.return_, 1) := by decide +kernel
theorem dX11_common_0 : decode cX11_common 0 = .ok (.lload_n 0, 1) := by decide +kernel
theorem dX11_common_1 : decode cX11_common 1 = .ok (.lstore 4, 2) := by decide +kernel
theorem dX11_common_3 : decode cX11_common 3 = .ok (.lload_n 2, 1) := by decide +kernel
theorem dX11_common_4 : decode cX11_common 4 = .ok (.lstore 6, 2) := by decide +kernel
theorem dX11_common_6 : decode cX11_common 6 = .ok (.lload 6, 2) := by decide +kernel
theorem dX11_common_8 : decode cX11_common 8 = .ok (.lconst 0, 1) := by decide +kernel
theorem dX11_common_9 : decode cX11_common 9 = .ok (.lcmp, 1) := by decide +kernel
theorem dX11_common_10 : decode cX11_common 10 = .ok (.ifCond .eq 21, 3) := by decide +kernel
theorem dX11_common_13 : decode cX11_common 13 = .ok (.lload 4, 2) := by decide +kernel
theorem dX11_common_15 : decode cX11_common 15 = .ok (.lload 6, 2) := by decide +kernel
theorem dX11_common_17 : decode cX11_common 17 = .ok (.lrem, 1) := by decide +kernel
theorem dX11_common_18 : decode cX11_common 18 = .ok (.lstore 8, 2) := by decide +kernel
theorem dX11_common_20 : decode cX11_common 20 = .ok (.lload 6, 2) := by decide +kernel
theorem dX11_common_22 : decode cX11_common 22 = .ok (.lstore 4, 2) := by decide +kernel
theorem dX11_common_24 : decode cX11_common 24 = .ok (.lload 8, 2) := by decide +kernel
theorem dX11_common_26 : decode cX11_common 26 = .ok (.lstore 6, 2) := by decide +kernel
theorem dX11_common_28 : decode cX11_common 28 = .ok (.goto (-22), 3) := by decide +kernel
theorem dX11_common_31 : decode cX11_common 31 = .ok (.lload 4, 2) := by decide +kernel
theorem dX11_common_33 : decode cX11_common 33 = .ok (.lreturn, 1) := by decide +kernel
theorem dX11_tens_0 : decode cX11_tens 0 = .ok (.lconst 1, 1) := by decide +kernel
theorem dX11_tens_1 : decode cX11_tens 1 = .ok (.lstore_n 1, 1) := by decide +kernel
theorem dX11_tens_2 : decode cX11_tens 2 = .ok (.iconst 0, 1) := by decide +kernel
theorem dX11_tens_3 : decode cX11_tens 3 = .ok (.istore_n 3, 1) := by decide +kernel
theorem dX11_tens_4 : decode cX11_tens 4 = .ok (.iload_n 3, 1) := by decide +kernel
theorem dX11_tens_5 : decode cX11_tens 5 = .ok (.iload_n 0, 1) := by decide +kernel
theorem dX11_tens_6 : decode cX11_tens 6 = .ok (.if_icmp .ge 15, 3) := by decide +kernel
theorem dX11_tens_9 : decode cX11_tens 9 = .ok (.lload_n 1, 1) := by decide +kernel
theorem dX11_tens_10 : decode cX11_tens 10 = .ok (.ldc2_w 289, 3) := by decide +kernel
theorem dX11_tens_13 : decode cX11_tens 13 = .ok (.lmul, 1) := by decide +kernel
theorem dX11_tens_14 : decode cX11_tens 14 = .ok (.lstore_n 1, 1) := by decide +kernel
theorem dX11_tens_15 : decode cX11_tens 15 = .ok (.iinc 3 1, 3) := by decide +kernel
theorem dX11_tens_18 : decode cX11_tens 18 = .ok (.goto (-14), 3) := by decide +kernel
theorem dX11_tens_21 : decode cX11_tens 21 = .ok (.lload_n 1, 1) := by decide +kernel
theorem dX11_tens_22 : decode cX11_tens 22 = .ok (.lreturn, 1) := by decide +kernel
theorem dX11_asleep_0 : decode cX11_asleep 0 = .ok (.lconst 1, 1) := by decide +kernel
theorem dX11_asleep_1 : decode cX11_asleep 1 = .ok (.lstore_n 2, 1) := by decide +kernel
theorem dX11_asleep_2 : decode cX11_asleep 2 = .ok (.iconst 0, 1) := by decide +kernel
theorem dX11_asleep_3 : decode cX11_asleep 3 = .ok (.istore 4, 2) := by decide +kernel
theorem dX11_asleep_5 : decode cX11_asleep 5 = .ok (.iload 4, 2) := by decide +kernel
theorem dX11_asleep_7 : decode cX11_asleep 7 = .ok (.aload_n 0, 1) := by decide +kernel
theorem dX11_asleep_8 : decode cX11_asleep 8 = .ok (.getfield 188, 3) := by decide +kernel
theorem dX11_asleep_11 : decode cX11_asleep 11 = .ok (.if_icmp .ge 39, 3) := by decide +kernel
theorem dX11_asleep_14 : decode cX11_asleep 14 = .ok (.lload_n 2, 1) := by decide +kernel
theorem dX11_asleep_15 : decode cX11_asleep 15 = .ok (.aload_n 0, 1) := by decide +kernel
theorem dX11_asleep_16 : decode cX11_asleep 16 = .ok (.getfield 35, 3) := by decide +kernel
theorem dX11_asleep_19 : decode cX11_asleep 19 = .ok (.iload 4, 2) := by decide +kernel
theorem dX11_asleep_21 : decode cX11_asleep 21 = .ok (.iaload, 1) := by decide +kernel
theorem dX11_asleep_22 : decode cX11_asleep 22 = .ok (.iload_n 1, 1) := by decide +kernel
theorem dX11_asleep_23 : decode cX11_asleep 23 = .ok (.if_icmp .gt 16, 3) := by decide +kernel
theorem dX11_asleep_26 : decode cX11_asleep 26 = .ok (.bipush 10, 2) := by decide +kernel
theorem dX11_asleep_28 : decode cX11_asleep 28 = .ok (.aload_n 0, 1) := by decide +kernel
theorem dX11_asleep_29 : decode cX11_asleep 29 = .ok (.iload 4, 2) := by decide +kernel
theorem dX11_asleep_31 : decode cX11_asleep 31 = .ok (.invokevirtual 291, 3) := by decide +kernel
theorem dX11_asleep_34 : decode cX11_asleep 34 = .ok (.isub, 1) := by decide +kernel
theorem dX11_asleep_35 : decode cX11_asleep 35 = .ok (.i2l, 1) := by decide +kernel
theorem dX11_asleep_36 : decode cX11_asleep 36 = .ok (.goto 6, 3) := by decide +kernel
theorem dX11_asleep_39 : decode cX11_asleep 39 = .ok (.ldc2_w 289, 3) := by decide +kernel
theorem dX11_asleep_42 : decode cX11_asleep 42 = .ok (.lmul, 1) := by decide +kernel
theorem dX11_asleep_43 : decode cX11_asleep 43 = .ok (.lstore_n 2, 1) := by decide +kernel
theorem dX11_asleep_44 : decode cX11_asleep 44 = .ok (.iinc 4 1, 3) := by decide +kernel
theorem dX11_asleep_47 : decode cX11_asleep 47 = .ok (.goto (-42), 3) := by decide +kernel
theorem dX11_asleep_50 : decode cX11_asleep 50 = .ok (.lload_n 2, 1) := by decide +kernel
theorem dX11_asleep_51 : decode cX11_asleep 51 = .ok (.lreturn, 1) := by decide +kernel
theorem dX11_wakesOf_0 : decode cX11_wakesOf 0 = .ok (.lconst 0, 1) := by decide +kernel
theorem dX11_wakesOf_1 : decode cX11_wakesOf 1 = .ok (.lstore_n 1, 1) := by decide +kernel
theorem dX11_wakesOf_2 : decode cX11_wakesOf 2 = .ok (.iconst 0, 1) := by decide +kernel
theorem dX11_wakesOf_3 : decode cX11_wakesOf 3 = .ok (.istore_n 3, 1) := by decide +kernel
theorem dX11_wakesOf_4 : decode cX11_wakesOf 4 = .ok (.iload_n 3, 1) := by decide +kernel
theorem dX11_wakesOf_5 : decode cX11_wakesOf 5 = .ok (.aload_n 0, 1) := by decide +kernel
theorem dX11_wakesOf_6 : decode cX11_wakesOf 6 = .ok (.getfield 185, 3) := by decide +kernel
theorem dX11_wakesOf_9 : decode cX11_wakesOf 9 = .ok (.if_icmp .ge 32, 3) := by decide +kernel
theorem dX11_wakesOf_12 : decode cX11_wakesOf 12 = .ok (.lload_n 1, 1) := by decide +kernel
theorem dX11_wakesOf_13 : decode cX11_wakesOf 13 = .ok (.aload_n 0, 1) := by decide +kernel
theorem dX11_wakesOf_14 : decode cX11_wakesOf 14 = .ok (.iload_n 3, 1) := by decide +kernel
theorem dX11_wakesOf_15 : decode cX11_wakesOf 15 = .ok (.invokevirtual 206, 3) := by decide +kernel
theorem dX11_wakesOf_18 : decode cX11_wakesOf 18 = .ok (.i2l, 1) := by decide +kernel
theorem dX11_wakesOf_19 : decode cX11_wakesOf 19 = .ok (.aload_n 0, 1) := by decide +kernel
theorem dX11_wakesOf_20 : decode cX11_wakesOf 20 = .ok (.getfield 188, 3) := by decide +kernel
theorem dX11_wakesOf_23 : decode cX11_wakesOf 23 = .ok (.invokestatic 294, 3) := by decide +kernel
theorem dX11_wakesOf_26 : decode cX11_wakesOf 26 = .ok (.aload_n 0, 1) := by decide +kernel
theorem dX11_wakesOf_27 : decode cX11_wakesOf 27 = .ok (.iload_n 3, 1) := by decide +kernel
theorem dX11_wakesOf_28 : decode cX11_wakesOf 28 = .ok (.invokevirtual 298, 3) := by decide +kernel
theorem dX11_wakesOf_31 : decode cX11_wakesOf 31 = .ok (.lsub, 1) := by decide +kernel
theorem dX11_wakesOf_32 : decode cX11_wakesOf 32 = .ok (.lmul, 1) := by decide +kernel
theorem dX11_wakesOf_33 : decode cX11_wakesOf 33 = .ok (.ladd, 1) := by decide +kernel
theorem dX11_wakesOf_34 : decode cX11_wakesOf 34 = .ok (.lstore_n 1, 1) := by decide +kernel
theorem dX11_wakesOf_35 : decode cX11_wakesOf 35 = .ok (.iinc 3 1, 3) := by decide +kernel
theorem dX11_wakesOf_38 : decode cX11_wakesOf 38 = .ok (.goto (-34), 3) := by decide +kernel
theorem dX11_wakesOf_41 : decode cX11_wakesOf 41 = .ok (.lload_n 1, 1) := by decide +kernel
theorem dX11_wakesOf_42 : decode cX11_wakesOf 42 = .ok (.lreturn, 1) := by decide +kernel
theorem dX11_wakes_0 : decode cX11_wakes 0 = .ok (.aload_n 0, 1) := by decide +kernel
theorem dX11_wakes_1 : decode cX11_wakes 1 = .ok (.iload_n 1, 1) := by decide +kernel
theorem dX11_wakes_2 : decode cX11_wakes 2 = .ok (.invokevirtual 197, 3) := by decide +kernel
theorem dX11_wakes_5 : decode cX11_wakes 5 = .ok (.ifCond .ne 7, 3) := by decide +kernel
theorem dX11_wakes_8 : decode cX11_wakes 8 = .ok (.ldc2_w 301, 3) := by decide +kernel
theorem dX11_wakes_11 : decode cX11_wakes 11 = .ok (.lreturn, 1) := by decide +kernel
theorem dX11_wakes_12 : decode cX11_wakes 12 = .ok (.aload_n 0, 1) := by decide +kernel
theorem dX11_wakes_13 : decode cX11_wakes 13 = .ok (.invokevirtual 303, 3) := by decide +kernel
theorem dX11_wakes_16 : decode cX11_wakes 16 = .ok (.aload_n 0, 1) := by decide +kernel
theorem dX11_wakes_17 : decode cX11_wakes 17 = .ok (.invokevirtual 306, 3) := by decide +kernel
theorem dX11_wakes_20 : decode cX11_wakes 20 = .ok (.aload_n 0, 1) := by decide +kernel
theorem dX11_wakes_21 : decode cX11_wakes 21 = .ok (.getfield 188, 3) := by decide +kernel
theorem dX11_wakes_24 : decode cX11_wakes 24 = .ok (.invokestatic 294, 3) := by decide +kernel
theorem dX11_wakes_27 : decode cX11_wakes 27 = .ok (.invokestatic 310, 3) := by decide +kernel
theorem dX11_wakes_30 : decode cX11_wakes 30 = .ok (.lstore_n 3, 1) := by decide +kernel
theorem dX11_wakes_31 : decode cX11_wakes 31 = .ok (.iload_n 2, 1) := by decide +kernel
theorem dX11_wakes_32 : decode cX11_wakes 32 = .ok (.ifCond .eq 13, 3) := by decide +kernel
theorem dX11_wakes_35 : decode cX11_wakes 35 = .ok (.aload_n 0, 1) := by decide +kernel
theorem dX11_wakes_36 : decode cX11_wakes 36 = .ok (.getfield 188, 3) := by decide +kernel
theorem dX11_wakes_39 : decode cX11_wakes 39 = .ok (.invokestatic 294, 3) := by decide +kernel
theorem dX11_wakes_42 : decode cX11_wakes 42 = .ok (.goto 7, 3) := by decide +kernel
theorem dX11_wakes_45 : decode cX11_wakes 45 = .ok (.aload_n 0, 1) := by decide +kernel
theorem dX11_wakes_46 : decode cX11_wakes 46 = .ok (.invokevirtual 306, 3) := by decide +kernel
theorem dX11_wakes_49 : decode cX11_wakes 49 = .ok (.lload_n 3, 1) := by decide +kernel
theorem dX11_wakes_50 : decode cX11_wakes 50 = .ok (.ldiv, 1) := by decide +kernel
theorem dX11_wakes_51 : decode cX11_wakes 51 = .ok (.lreturn, 1) := by decide +kernel
theorem dX11_change_0 : decode cX11_change 0 = .ok (.aload_n 0, 1) := by decide +kernel
theorem dX11_change_1 : decode cX11_change 1 = .ok (.iload_n 1, 1) := by decide +kernel
theorem dX11_change_2 : decode cX11_change 2 = .ok (.invokevirtual 197, 3) := by decide +kernel
theorem dX11_change_5 : decode cX11_change 5 = .ok (.ifCond .ne 5, 3) := by decide +kernel
theorem dX11_change_8 : decode cX11_change 8 = .ok (.iconst (-1), 1) := by decide +kernel
theorem dX11_change_9 : decode cX11_change 9 = .ok (.ireturn, 1) := by decide +kernel
theorem dX11_change_10 : decode cX11_change 10 = .ok (.aload_n 0, 1) := by decide +kernel
theorem dX11_change_11 : decode cX11_change 11 = .ok (.invokevirtual 303, 3) := by decide +kernel
theorem dX11_change_14 : decode cX11_change 14 = .ok (.aload_n 0, 1) := by decide +kernel
theorem dX11_change_15 : decode cX11_change 15 = .ok (.invokevirtual 306, 3) := by decide +kernel
theorem dX11_change_18 : decode cX11_change 18 = .ok (.lstore_n 2, 1) := by decide +kernel
theorem dX11_change_19 : decode cX11_change 19 = .ok (.iconst (-1), 1) := by decide +kernel
theorem dX11_change_20 : decode cX11_change 20 = .ok (.istore 4, 2) := by decide +kernel
theorem dX11_change_22 : decode cX11_change 22 = .ok (.iconst 0, 1) := by decide +kernel
theorem dX11_change_23 : decode cX11_change 23 = .ok (.istore 5, 2) := by decide +kernel
theorem dX11_change_25 : decode cX11_change 25 = .ok (.iload 5, 2) := by decide +kernel
theorem dX11_change_27 : decode cX11_change 27 = .ok (.aload_n 0, 1) := by decide +kernel
theorem dX11_change_28 : decode cX11_change 28 = .ok (.getfield 188, 3) := by decide +kernel
theorem dX11_change_31 : decode cX11_change 31 = .ok (.if_icmp .ge 111, 3) := by decide +kernel
theorem dX11_change_34 : decode cX11_change 34 = .ok (.iload 5, 2) := by decide +kernel
theorem dX11_change_36 : decode cX11_change 36 = .ok (.iconst 1, 1) := by decide +kernel
theorem dX11_change_37 : decode cX11_change 37 = .ok (.iadd, 1) := by decide +kernel
theorem dX11_change_38 : decode cX11_change 38 = .ok (.istore 6, 2) := by decide +kernel
theorem dX11_change_40 : decode cX11_change 40 = .ok (.iload 6, 2) := by decide +kernel
theorem dX11_change_42 : decode cX11_change 42 = .ok (.aload_n 0, 1) := by decide +kernel
theorem dX11_change_43 : decode cX11_change 43 = .ok (.getfield 188, 3) := by decide +kernel
theorem dX11_change_46 : decode cX11_change 46 = .ok (.if_icmp .ge 90, 3) := by decide +kernel
theorem dX11_change_49 : decode cX11_change 49 = .ok (.aload_n 0, 1) := by decide +kernel
theorem dX11_change_50 : decode cX11_change 50 = .ok (.getfield 35, 3) := by decide +kernel
theorem dX11_change_53 : decode cX11_change 53 = .ok (.iload 5, 2) := by decide +kernel
theorem dX11_change_55 : decode cX11_change 55 = .ok (.aload_n 0, 1) := by decide +kernel
theorem dX11_change_56 : decode cX11_change 56 = .ok (.iload 6, 2) := by decide +kernel
theorem dX11_change_58 : decode cX11_change 58 = .ok (.invokevirtual 265, 3) := by decide +kernel
theorem dX11_change_61 : decode cX11_change 61 = .ok (.iastore, 1) := by decide +kernel
theorem dX11_change_62 : decode cX11_change 62 = .ok (.aload_n 0, 1) := by decide +kernel
theorem dX11_change_63 : decode cX11_change 63 = .ok (.getfield 35, 3) := by decide +kernel
theorem dX11_change_66 : decode cX11_change 66 = .ok (.iload 6, 2) := by decide +kernel
theorem dX11_change_68 : decode cX11_change 68 = .ok (.aload_n 0, 1) := by decide +kernel
theorem dX11_change_69 : decode cX11_change 69 = .ok (.iload 5, 2) := by decide +kernel
theorem dX11_change_71 : decode cX11_change 71 = .ok (.invokevirtual 265, 3) := by decide +kernel
theorem dX11_change_74 : decode cX11_change 74 = .ok (.iastore, 1) := by decide +kernel
theorem dX11_change_75 : decode cX11_change 75 = .ok (.aload_n 0, 1) := by decide +kernel
theorem dX11_change_76 : decode cX11_change 76 = .ok (.invokevirtual 306, 3) := by decide +kernel
theorem dX11_change_79 : decode cX11_change 79 = .ok (.lstore 7, 2) := by decide +kernel
theorem dX11_change_81 : decode cX11_change 81 = .ok (.aload_n 0, 1) := by decide +kernel
theorem dX11_change_82 : decode cX11_change 82 = .ok (.getfield 35, 3) := by decide +kernel
theorem dX11_change_85 : decode cX11_change 85 = .ok (.iload 5, 2) := by decide +kernel
theorem dX11_change_87 : decode cX11_change 87 = .ok (.aload_n 0, 1) := by decide +kernel
theorem dX11_change_88 : decode cX11_change 88 = .ok (.iload 5, 2) := by decide +kernel
theorem dX11_change_90 : decode cX11_change 90 = .ok (.invokevirtual 265, 3) := by decide +kernel
theorem dX11_change_93 : decode cX11_change 93 = .ok (.iastore, 1) := by decide +kernel
theorem dX11_change_94 : decode cX11_change 94 = .ok (.aload_n 0, 1) := by decide +kernel
theorem dX11_change_95 : decode cX11_change 95 = .ok (.getfield 35, 3) := by decide +kernel
theorem dX11_change_98 : decode cX11_change 98 = .ok (.iload 6, 2) := by decide +kernel
theorem dX11_change_100 : decode cX11_change 100 = .ok (.aload_n 0, 1) := by decide +kernel
theorem dX11_change_101 : decode cX11_change 101 = .ok (.iload 6, 2) := by decide +kernel
theorem dX11_change_103 : decode cX11_change 103 = .ok (.invokevirtual 265, 3) := by decide +kernel
theorem dX11_change_106 : decode cX11_change 106 = .ok (.iastore, 1) := by decide +kernel
theorem dX11_change_107 : decode cX11_change 107 = .ok (.lload 7, 2) := by decide +kernel
theorem dX11_change_109 : decode cX11_change 109 = .ok (.lload_n 2, 1) := by decide +kernel
theorem dX11_change_110 : decode cX11_change 110 = .ok (.lcmp, 1) := by decide +kernel
theorem dX11_change_111 : decode cX11_change 111 = .ok (.ifCond .lt 6, 3) := by decide +kernel
theorem dX11_change_114 : decode cX11_change 114 = .ok (.goto 16, 3) := by decide +kernel
theorem dX11_change_117 : decode cX11_change 117 = .ok (.bipush 10, 2) := by decide +kernel
theorem dX11_change_119 : decode cX11_change 119 = .ok (.iload 5, 2) := by decide +kernel
theorem dX11_change_121 : decode cX11_change 121 = .ok (.imul, 1) := by decide +kernel
theorem dX11_change_122 : decode cX11_change 122 = .ok (.iload 6, 2) := by decide +kernel
theorem dX11_change_124 : decode cX11_change 124 = .ok (.iadd, 1) := by decide +kernel
theorem dX11_change_125 : decode cX11_change 125 = .ok (.istore 4, 2) := by decide +kernel
theorem dX11_change_127 : decode cX11_change 127 = .ok (.lload 7, 2) := by decide +kernel
theorem dX11_change_129 : decode cX11_change 129 = .ok (.lstore_n 2, 1) := by decide +kernel
theorem dX11_change_130 : decode cX11_change 130 = .ok (.iinc 6 1, 3) := by decide +kernel
theorem dX11_change_133 : decode cX11_change 133 = .ok (.goto (-93), 3) := by decide +kernel
theorem dX11_change_136 : decode cX11_change 136 = .ok (.iinc 5 1, 3) := by decide +kernel
theorem dX11_change_139 : decode cX11_change 139 = .ok (.goto (-114), 3) := by decide +kernel
theorem dX11_change_142 : decode cX11_change 142 = .ok (.iload 4, 2) := by decide +kernel
theorem dX11_change_144 : decode cX11_change 144 = .ok (.ireturn, 1) := by decide +kernel
theorem dX11_upFrom_0 : decode cX11_upFrom 0 = .ok (.iconst 0, 1) := by decide +kernel
theorem dX11_upFrom_1 : decode cX11_upFrom 1 = .ok (.istore_n 2, 1) := by decide +kernel
theorem dX11_upFrom_2 : decode cX11_upFrom 2 = .ok (.iload_n 1, 1) := by decide +kernel
theorem dX11_upFrom_3 : decode cX11_upFrom 3 = .ok (.istore_n 3, 1) := by decide +kernel
theorem dX11_upFrom_4 : decode cX11_upFrom 4 = .ok (.iload_n 3, 1) := by decide +kernel
theorem dX11_upFrom_5 : decode cX11_upFrom 5 = .ok (.aload_n 0, 1) := by decide +kernel
theorem dX11_upFrom_6 : decode cX11_upFrom 6 = .ok (.getfield 185, 3) := by decide +kernel
theorem dX11_upFrom_9 : decode cX11_upFrom 9 = .ok (.if_icmp .ge 17, 3) := by decide +kernel
theorem dX11_upFrom_12 : decode cX11_upFrom 12 = .ok (.iload_n 2, 1) := by decide +kernel
theorem dX11_upFrom_13 : decode cX11_upFrom 13 = .ok (.aload_n 0, 1) := by decide +kernel
theorem dX11_upFrom_14 : decode cX11_upFrom 14 = .ok (.iload_n 3, 1) := by decide +kernel
theorem dX11_upFrom_15 : decode cX11_upFrom 15 = .ok (.invokevirtual 206, 3) := by decide +kernel
theorem dX11_upFrom_18 : decode cX11_upFrom 18 = .ok (.iadd, 1) := by decide +kernel
theorem dX11_upFrom_19 : decode cX11_upFrom 19 = .ok (.istore_n 2, 1) := by decide +kernel
theorem dX11_upFrom_20 : decode cX11_upFrom 20 = .ok (.iinc 3 1, 3) := by decide +kernel
theorem dX11_upFrom_23 : decode cX11_upFrom 23 = .ok (.goto (-19), 3) := by decide +kernel
theorem dX11_upFrom_26 : decode cX11_upFrom 26 = .ok (.iload_n 2, 1) := by decide +kernel
theorem dX11_upFrom_27 : decode cX11_upFrom 27 = .ok (.ireturn, 1) := by decide +kernel
theorem dX11_roofOf_0 : decode cX11_roofOf 0 = .ok (.aload_n 0, 1) := by decide +kernel
theorem dX11_roofOf_1 : decode cX11_roofOf 1 = .ok (.iload_n 1, 1) := by decide +kernel
theorem dX11_roofOf_2 : decode cX11_roofOf 2 = .ok (.invokevirtual 194, 3) := by decide +kernel
theorem dX11_roofOf_5 : decode cX11_roofOf 5 = .ok (.ifCond .ne 7, 3) := by decide +kernel
theorem dX11_roofOf_8 : decode cX11_roofOf 8 = .ok (.iconst 0, 1) := by decide +kernel
theorem dX11_roofOf_9 : decode cX11_roofOf 9 = .ok (.goto 12, 3) := by decide +kernel
theorem dX11_roofOf_12 : decode cX11_roofOf 12 = .ok (.aload_n 0, 1) := by decide +kernel
theorem dX11_roofOf_13 : decode cX11_roofOf 13 = .ok (.aload_n 0, 1) := by decide +kernel
theorem dX11_roofOf_14 : decode cX11_roofOf 14 = .ok (.iload_n 1, 1) := by decide +kernel
theorem dX11_roofOf_15 : decode cX11_roofOf 15 = .ok (.invokevirtual 265, 3) := by decide +kernel
theorem dX11_roofOf_18 : decode cX11_roofOf 18 = .ok (.invokevirtual 314, 3) := by decide +kernel
theorem dX11_roofOf_21 : decode cX11_roofOf 21 = .ok (.ireturn, 1) := by decide +kernel
theorem dX11_quietestOf_0 : decode cX11_quietestOf 0 = .ok (.iconst (-1), 1) := by decide +kernel
theorem dX11_quietestOf_1 : decode cX11_quietestOf 1 = .ok (.istore_n 1, 1) := by decide +kernel
theorem dX11_quietestOf_2 : decode cX11_quietestOf 2 = .ok (.iconst 0, 1) := by decide +kernel
theorem dX11_quietestOf_3 : decode cX11_quietestOf 3 = .ok (.istore_n 2, 1) := by decide +kernel
theorem dX11_quietestOf_4 : decode cX11_quietestOf 4 = .ok (.iload_n 2, 1) := by decide +kernel
theorem dX11_quietestOf_5 : decode cX11_quietestOf 5 = .ok (.aload_n 0, 1) := by decide +kernel
theorem dX11_quietestOf_6 : decode cX11_quietestOf 6 = .ok (.getfield 188, 3) := by decide +kernel
theorem dX11_quietestOf_9 : decode cX11_quietestOf 9 = .ok (.if_icmp .ge 37, 3) := by decide +kernel
theorem dX11_quietestOf_12 : decode cX11_quietestOf 12 = .ok (.aload_n 0, 1) := by decide +kernel
theorem dX11_quietestOf_13 : decode cX11_quietestOf 13 = .ok (.iload_n 2, 1) := by decide +kernel
theorem dX11_quietestOf_14 : decode cX11_quietestOf 14 = .ok (.invokevirtual 194, 3) := by decide +kernel
theorem dX11_quietestOf_17 : decode cX11_quietestOf 17 = .ok (.ifCond .le 23, 3) := by decide +kernel
theorem dX11_quietestOf_20 : decode cX11_quietestOf 20 = .ok (.iload_n 1, 1) := by decide +kernel
theorem dX11_quietestOf_21 : decode cX11_quietestOf 21 = .ok (.iconst (-1), 1) := by decide +kernel
theorem dX11_quietestOf_22 : decode cX11_quietestOf 22 = .ok (.if_icmp .eq 16, 3) := by decide +kernel
theorem dX11_quietestOf_25 : decode cX11_quietestOf 25 = .ok (.aload_n 0, 1) := by decide +kernel
theorem dX11_quietestOf_26 : decode cX11_quietestOf 26 = .ok (.iload_n 2, 1) := by decide +kernel
theorem dX11_quietestOf_27 : decode cX11_quietestOf 27 = .ok (.invokevirtual 317, 3) := by decide +kernel
theorem dX11_quietestOf_30 : decode cX11_quietestOf 30 = .ok (.aload_n 0, 1) := by decide +kernel
theorem dX11_quietestOf_31 : decode cX11_quietestOf 31 = .ok (.iload_n 1, 1) := by decide +kernel
theorem dX11_quietestOf_32 : decode cX11_quietestOf 32 = .ok (.invokevirtual 317, 3) := by decide +kernel
theorem dX11_quietestOf_35 : decode cX11_quietestOf 35 = .ok (.if_icmp .ge 5, 3) := by decide +kernel
theorem dX11_quietestOf_38 : decode cX11_quietestOf 38 = .ok (.iload_n 2, 1) := by decide +kernel
theorem dX11_quietestOf_39 : decode cX11_quietestOf 39 = .ok (.istore_n 1, 1) := by decide +kernel
theorem dX11_quietestOf_40 : decode cX11_quietestOf 40 = .ok (.iinc 2 1, 3) := by decide +kernel
theorem dX11_quietestOf_43 : decode cX11_quietestOf 43 = .ok (.goto (-39), 3) := by decide +kernel
theorem dX11_quietestOf_46 : decode cX11_quietestOf 46 = .ok (.iload_n 1, 1) := by decide +kernel
theorem dX11_quietestOf_47 : decode cX11_quietestOf 47 = .ok (.ireturn, 1) := by decide +kernel
theorem dX11_rentsOf_0 : decode cX11_rentsOf 0 = .ok (.iconst 0, 1) := by decide +kernel
theorem dX11_rentsOf_1 : decode cX11_rentsOf 1 = .ok (.istore_n 1, 1) := by decide +kernel
theorem dX11_rentsOf_2 : decode cX11_rentsOf 2 = .ok (.iconst 0, 1) := by decide +kernel
theorem dX11_rentsOf_3 : decode cX11_rentsOf 3 = .ok (.istore_n 2, 1) := by decide +kernel
theorem dX11_rentsOf_4 : decode cX11_rentsOf 4 = .ok (.iload_n 2, 1) := by decide +kernel
theorem dX11_rentsOf_5 : decode cX11_rentsOf 5 = .ok (.aload_n 0, 1) := by decide +kernel
theorem dX11_rentsOf_6 : decode cX11_rentsOf 6 = .ok (.getfield 185, 3) := by decide +kernel
theorem dX11_rentsOf_9 : decode cX11_rentsOf 9 = .ok (.if_icmp .ge 17, 3) := by decide +kernel
theorem dX11_rentsOf_12 : decode cX11_rentsOf 12 = .ok (.iload_n 1, 1) := by decide +kernel
theorem dX11_rentsOf_13 : decode cX11_rentsOf 13 = .ok (.aload_n 0, 1) := by decide +kernel
theorem dX11_rentsOf_14 : decode cX11_rentsOf 14 = .ok (.iload_n 2, 1) := by decide +kernel
theorem dX11_rentsOf_15 : decode cX11_rentsOf 15 = .ok (.invokevirtual 203, 3) := by decide +kernel
theorem dX11_rentsOf_18 : decode cX11_rentsOf 18 = .ok (.iadd, 1) := by decide +kernel
theorem dX11_rentsOf_19 : decode cX11_rentsOf 19 = .ok (.istore_n 1, 1) := by decide +kernel
theorem dX11_rentsOf_20 : decode cX11_rentsOf 20 = .ok (.iinc 2 1, 3) := by decide +kernel
theorem dX11_rentsOf_23 : decode cX11_rentsOf 23 = .ok (.goto (-19), 3) := by decide +kernel
theorem dX11_rentsOf_26 : decode cX11_rentsOf 26 = .ok (.iload_n 1, 1) := by decide +kernel
theorem dX11_rentsOf_27 : decode cX11_rentsOf 27 = .ok (.ireturn, 1) := by decide +kernel
theorem dX11_climbOf_0 : decode cX11_climbOf 0 = .ok (.iconst 0, 1) := by decide +kernel
theorem dX11_climbOf_1 : decode cX11_climbOf 1 = .ok (.istore_n 2, 1) := by decide +kernel
theorem dX11_climbOf_2 : decode cX11_climbOf 2 = .ok (.iconst (-1), 1) := by decide +kernel
theorem dX11_climbOf_3 : decode cX11_climbOf 3 = .ok (.istore_n 3, 1) := by decide +kernel
theorem dX11_climbOf_4 : decode cX11_climbOf 4 = .ok (.iconst 0, 1) := by decide +kernel
theorem dX11_climbOf_5 : decode cX11_climbOf 5 = .ok (.istore 4, 2) := by decide +kernel
theorem dX11_climbOf_7 : decode cX11_climbOf 7 = .ok (.iconst 0, 1) := by decide +kernel
theorem dX11_climbOf_8 : decode cX11_climbOf 8 = .ok (.istore 5, 2) := by decide +kernel
theorem dX11_climbOf_10 : decode cX11_climbOf 10 = .ok (.iload 5, 2) := by decide +kernel
theorem dX11_climbOf_12 : decode cX11_climbOf 12 = .ok (.aload_n 0, 1) := by decide +kernel
theorem dX11_climbOf_13 : decode cX11_climbOf 13 = .ok (.getfield 188, 3) := by decide +kernel
theorem dX11_climbOf_16 : decode cX11_climbOf 16 = .ok (.if_icmp .ge 86, 3) := by decide +kernel
theorem dX11_climbOf_19 : decode cX11_climbOf 19 = .ok (.iload 4, 2) := by decide +kernel
theorem dX11_climbOf_21 : decode cX11_climbOf 21 = .ok (.ifCond .le 24, 3) := by decide +kernel
theorem dX11_climbOf_24 : decode cX11_climbOf 24 = .ok (.aload_n 0, 1) := by decide +kernel
theorem dX11_climbOf_25 : decode cX11_climbOf 25 = .ok (.iload 5, 2) := by decide +kernel
theorem dX11_climbOf_27 : decode cX11_climbOf 27 = .ok (.invokevirtual 265, 3) := by decide +kernel
theorem dX11_climbOf_30 : decode cX11_climbOf 30 = .ok (.aload_n 0, 1) := by decide +kernel
theorem dX11_climbOf_31 : decode cX11_climbOf 31 = .ok (.iload 5, 2) := by decide +kernel
theorem dX11_climbOf_33 : decode cX11_climbOf 33 = .ok (.iconst 1, 1) := by decide +kernel
theorem dX11_climbOf_34 : decode cX11_climbOf 34 = .ok (.isub, 1) := by decide +kernel
theorem dX11_climbOf_35 : decode cX11_climbOf 35 = .ok (.invokevirtual 265, 3) := by decide +kernel
theorem dX11_climbOf_38 : decode cX11_climbOf 38 = .ok (.if_icmp .lt 7, 3) := by decide +kernel
theorem dX11_climbOf_41 : decode cX11_climbOf 41 = .ok (.iconst 1, 1) := by decide +kernel
theorem dX11_climbOf_42 : decode cX11_climbOf 42 = .ok (.goto 4, 3) := by decide +kernel
theorem dX11_climbOf_45 : decode cX11_climbOf 45 = .ok (.iconst 0, 1) := by decide +kernel
theorem dX11_climbOf_46 : decode cX11_climbOf 46 = .ok (.istore 6, 2) := by decide +kernel
theorem dX11_climbOf_48 : decode cX11_climbOf 48 = .ok (.aload_n 0, 1) := by decide +kernel
theorem dX11_climbOf_49 : decode cX11_climbOf 49 = .ok (.iload 5, 2) := by decide +kernel
theorem dX11_climbOf_51 : decode cX11_climbOf 51 = .ok (.invokevirtual 194, 3) := by decide +kernel
theorem dX11_climbOf_54 : decode cX11_climbOf 54 = .ok (.ifCond .ne 7, 3) := by decide +kernel
theorem dX11_climbOf_57 : decode cX11_climbOf 57 = .ok (.iconst 0, 1) := by decide +kernel
theorem dX11_climbOf_58 : decode cX11_climbOf 58 = .ok (.goto 16, 3) := by decide +kernel
theorem dX11_climbOf_61 : decode cX11_climbOf 61 = .ok (.iload 6, 2) := by decide +kernel
theorem dX11_climbOf_63 : decode cX11_climbOf 63 = .ok (.ifCond .eq 10, 3) := by decide +kernel
theorem dX11_climbOf_66 : decode cX11_climbOf 66 = .ok (.iload 4, 2) := by decide +kernel
theorem dX11_climbOf_68 : decode cX11_climbOf 68 = .ok (.iconst 1, 1) := by decide +kernel
theorem dX11_climbOf_69 : decode cX11_climbOf 69 = .ok (.iadd, 1) := by decide +kernel
theorem dX11_climbOf_70 : decode cX11_climbOf 70 = .ok (.goto 4, 3) := by decide +kernel
theorem dX11_climbOf_73 : decode cX11_climbOf 73 = .ok (.iconst 1, 1) := by decide +kernel
theorem dX11_climbOf_74 : decode cX11_climbOf 74 = .ok (.istore 4, 2) := by decide +kernel
theorem dX11_climbOf_76 : decode cX11_climbOf 76 = .ok (.iload 4, 2) := by decide +kernel
theorem dX11_climbOf_78 : decode cX11_climbOf 78 = .ok (.iload_n 2, 1) := by decide +kernel
theorem dX11_climbOf_79 : decode cX11_climbOf 79 = .ok (.if_icmp .gt 6, 3) := by decide +kernel
theorem dX11_climbOf_82 : decode cX11_climbOf 82 = .ok (.goto 14, 3) := by decide +kernel
theorem dX11_climbOf_85 : decode cX11_climbOf 85 = .ok (.iload 4, 2) := by decide +kernel
theorem dX11_climbOf_87 : decode cX11_climbOf 87 = .ok (.istore_n 2, 1) := by decide +kernel
theorem dX11_climbOf_88 : decode cX11_climbOf 88 = .ok (.iload 5, 2) := by decide +kernel
theorem dX11_climbOf_90 : decode cX11_climbOf 90 = .ok (.iload 4, 2) := by decide +kernel
theorem dX11_climbOf_92 : decode cX11_climbOf 92 = .ok (.isub, 1) := by decide +kernel
theorem dX11_climbOf_93 : decode cX11_climbOf 93 = .ok (.iconst 1, 1) := by decide +kernel
theorem dX11_climbOf_94 : decode cX11_climbOf 94 = .ok (.iadd, 1) := by decide +kernel
theorem dX11_climbOf_95 : decode cX11_climbOf 95 = .ok (.istore_n 3, 1) := by decide +kernel
theorem dX11_climbOf_96 : decode cX11_climbOf 96 = .ok (.iinc 5 1, 3) := by decide +kernel
theorem dX11_climbOf_99 : decode cX11_climbOf 99 = .ok (.goto (-89), 3) := by decide +kernel
theorem dX11_climbOf_102 : decode cX11_climbOf 102 = .ok (.iload_n 1, 1) := by decide +kernel
theorem dX11_climbOf_103 : decode cX11_climbOf 103 = .ok (.ifCond .eq 7, 3) := by decide +kernel
theorem dX11_climbOf_106 : decode cX11_climbOf 106 = .ok (.iload_n 3, 1) := by decide +kernel
theorem dX11_climbOf_107 : decode cX11_climbOf 107 = .ok (.goto 4, 3) := by decide +kernel
theorem dX11_climbOf_110 : decode cX11_climbOf 110 = .ok (.iload_n 2, 1) := by decide +kernel
theorem dX11_climbOf_111 : decode cX11_climbOf 111 = .ok (.ireturn, 1) := by decide +kernel
theorem dX11_isAlike_0 : decode cX11_isAlike 0 = .ok (.iconst 1, 1) := by decide +kernel
theorem dX11_isAlike_1 : decode cX11_isAlike 1 = .ok (.istore 4, 2) := by decide +kernel
theorem dX11_isAlike_3 : decode cX11_isAlike 3 = .ok (.iconst 0, 1) := by decide +kernel
theorem dX11_isAlike_4 : decode cX11_isAlike 4 = .ok (.istore 5, 2) := by decide +kernel
theorem dX11_isAlike_6 : decode cX11_isAlike 6 = .ok (.iload 5, 2) := by decide +kernel
theorem dX11_isAlike_8 : decode cX11_isAlike 8 = .ok (.iload_n 3, 1) := by decide +kernel
theorem dX11_isAlike_9 : decode cX11_isAlike 9 = .ok (.if_icmp .ge 59, 3) := by decide +kernel
theorem dX11_isAlike_12 : decode cX11_isAlike 12 = .ok (.iload 4, 2) := by decide +kernel
theorem dX11_isAlike_14 : decode cX11_isAlike 14 = .ok (.ifCond .eq 45, 3) := by decide +kernel
theorem dX11_isAlike_17 : decode cX11_isAlike 17 = .ok (.aload_n 0, 1) := by decide +kernel
theorem dX11_isAlike_18 : decode cX11_isAlike 18 = .ok (.iload_n 1, 1) := by decide +kernel
theorem dX11_isAlike_19 : decode cX11_isAlike 19 = .ok (.iload 5, 2) := by decide +kernel
theorem dX11_isAlike_21 : decode cX11_isAlike 21 = .ok (.iadd, 1) := by decide +kernel
theorem dX11_isAlike_22 : decode cX11_isAlike 22 = .ok (.invokevirtual 194, 3) := by decide +kernel
theorem dX11_isAlike_25 : decode cX11_isAlike 25 = .ok (.aload_n 0, 1) := by decide +kernel
theorem dX11_isAlike_26 : decode cX11_isAlike 26 = .ok (.iload_n 2, 1) := by decide +kernel
theorem dX11_isAlike_27 : decode cX11_isAlike 27 = .ok (.iload 5, 2) := by decide +kernel
theorem dX11_isAlike_29 : decode cX11_isAlike 29 = .ok (.iadd, 1) := by decide +kernel
theorem dX11_isAlike_30 : decode cX11_isAlike 30 = .ok (.invokevirtual 194, 3) := by decide +kernel
theorem dX11_isAlike_33 : decode cX11_isAlike 33 = .ok (.if_icmp .ne 26, 3) := by decide +kernel
theorem dX11_isAlike_36 : decode cX11_isAlike 36 = .ok (.aload_n 0, 1) := by decide +kernel
theorem dX11_isAlike_37 : decode cX11_isAlike 37 = .ok (.iload_n 1, 1) := by decide +kernel
theorem dX11_isAlike_38 : decode cX11_isAlike 38 = .ok (.iload 5, 2) := by decide +kernel
theorem dX11_isAlike_40 : decode cX11_isAlike 40 = .ok (.iadd, 1) := by decide +kernel
theorem dX11_isAlike_41 : decode cX11_isAlike 41 = .ok (.invokevirtual 231, 3) := by decide +kernel
theorem dX11_isAlike_44 : decode cX11_isAlike 44 = .ok (.aload_n 0, 1) := by decide +kernel
theorem dX11_isAlike_45 : decode cX11_isAlike 45 = .ok (.iload_n 2, 1) := by decide +kernel
theorem dX11_isAlike_46 : decode cX11_isAlike 46 = .ok (.iload 5, 2) := by decide +kernel
theorem dX11_isAlike_48 : decode cX11_isAlike 48 = .ok (.iadd, 1) := by decide +kernel
theorem dX11_isAlike_49 : decode cX11_isAlike 49 = .ok (.invokevirtual 231, 3) := by decide +kernel
theorem dX11_isAlike_52 : decode cX11_isAlike 52 = .ok (.if_icmp .ne 7, 3) := by decide +kernel
theorem dX11_isAlike_55 : decode cX11_isAlike 55 = .ok (.iconst 1, 1) := by decide +kernel
theorem dX11_isAlike_56 : decode cX11_isAlike 56 = .ok (.goto 4, 3) := by decide +kernel
theorem dX11_isAlike_59 : decode cX11_isAlike 59 = .ok (.iconst 0, 1) := by decide +kernel
theorem dX11_isAlike_60 : decode cX11_isAlike 60 = .ok (.istore 4, 2) := by decide +kernel
theorem dX11_isAlike_62 : decode cX11_isAlike 62 = .ok (.iinc 5 1, 3) := by decide +kernel
theorem dX11_isAlike_65 : decode cX11_isAlike 65 = .ok (.goto (-59), 3) := by decide +kernel
theorem dX11_isAlike_68 : decode cX11_isAlike 68 = .ok (.iload 4, 2) := by decide +kernel
theorem dX11_isAlike_70 : decode cX11_isAlike 70 = .ok (.ireturn, 1) := by decide +kernel
theorem dX11_echoOf_0 : decode cX11_echoOf 0 = .ok (.aload_n 0, 1) := by decide +kernel
theorem dX11_echoOf_1 : decode cX11_echoOf 1 = .ok (.getfield 188, 3) := by decide +kernel
theorem dX11_echoOf_4 : decode cX11_echoOf 4 = .ok (.iconst 2, 1) := by decide +kernel
theorem dX11_echoOf_5 : decode cX11_echoOf 5 = .ok (.idiv, 1) := by decide +kernel
theorem dX11_echoOf_6 : decode cX11_echoOf 6 = .ok (.istore_n 2, 1) := by decide +kernel
theorem dX11_echoOf_7 : decode cX11_echoOf 7 = .ok (.iload_n 2, 1) := by decide +kernel
theorem dX11_echoOf_8 : decode cX11_echoOf 8 = .ok (.ifCond .le 72, 3) := by decide +kernel
theorem dX11_echoOf_11 : decode cX11_echoOf 11 = .ok (.iconst 0, 1) := by decide +kernel
theorem dX11_echoOf_12 : decode cX11_echoOf 12 = .ok (.istore_n 3, 1) := by decide +kernel
theorem dX11_echoOf_13 : decode cX11_echoOf 13 = .ok (.iload_n 3, 1) := by decide +kernel
theorem dX11_echoOf_14 : decode cX11_echoOf 14 = .ok (.iconst 2, 1) := by decide +kernel
theorem dX11_echoOf_15 : decode cX11_echoOf 15 = .ok (.iload_n 2, 1) := by decide +kernel
theorem dX11_echoOf_16 : decode cX11_echoOf 16 = .ok (.imul, 1) := by decide +kernel
theorem dX11_echoOf_17 : decode cX11_echoOf 17 = .ok (.iadd, 1) := by decide +kernel
theorem dX11_echoOf_18 : decode cX11_echoOf 18 = .ok (.aload_n 0, 1) := by decide +kernel
theorem dX11_echoOf_19 : decode cX11_echoOf 19 = .ok (.getfield 188, 3) := by decide +kernel
theorem dX11_echoOf_22 : decode cX11_echoOf 22 = .ok (.if_icmp .gt 52, 3) := by decide +kernel
theorem dX11_echoOf_25 : decode cX11_echoOf 25 = .ok (.iload_n 3, 1) := by decide +kernel
theorem dX11_echoOf_26 : decode cX11_echoOf 26 = .ok (.iload_n 2, 1) := by decide +kernel
theorem dX11_echoOf_27 : decode cX11_echoOf 27 = .ok (.iadd, 1) := by decide +kernel
theorem dX11_echoOf_28 : decode cX11_echoOf 28 = .ok (.istore 4, 2) := by decide +kernel
theorem dX11_echoOf_30 : decode cX11_echoOf 30 = .ok (.iload 4, 2) := by decide +kernel
theorem dX11_echoOf_32 : decode cX11_echoOf 32 = .ok (.iload_n 2, 1) := by decide +kernel
theorem dX11_echoOf_33 : decode cX11_echoOf 33 = .ok (.iadd, 1) := by decide +kernel
theorem dX11_echoOf_34 : decode cX11_echoOf 34 = .ok (.aload_n 0, 1) := by decide +kernel
theorem dX11_echoOf_35 : decode cX11_echoOf 35 = .ok (.getfield 188, 3) := by decide +kernel
theorem dX11_echoOf_38 : decode cX11_echoOf 38 = .ok (.if_icmp .gt 30, 3) := by decide +kernel
theorem dX11_echoOf_41 : decode cX11_echoOf 41 = .ok (.aload_n 0, 1) := by decide +kernel
theorem dX11_echoOf_42 : decode cX11_echoOf 42 = .ok (.iload_n 3, 1) := by decide +kernel
theorem dX11_echoOf_43 : decode cX11_echoOf 43 = .ok (.iload 4, 2) := by decide +kernel
theorem dX11_echoOf_45 : decode cX11_echoOf 45 = .ok (.iload_n 2, 1) := by decide +kernel
theorem dX11_echoOf_46 : decode cX11_echoOf 46 = .ok (.invokevirtual 320, 3) := by decide +kernel
theorem dX11_echoOf_49 : decode cX11_echoOf 49 = .ok (.ifCond .eq 13, 3) := by decide +kernel
theorem dX11_echoOf_52 : decode cX11_echoOf 52 = .ok (.iload_n 1, 1) := by decide +kernel
theorem dX11_echoOf_53 : decode cX11_echoOf 53 = .ok (.ifCond .eq 7, 3) := by decide +kernel
theorem dX11_echoOf_56 : decode cX11_echoOf 56 = .ok (.iload_n 3, 1) := by decide +kernel
theorem dX11_echoOf_57 : decode cX11_echoOf 57 = .ok (.goto 4, 3) := by decide +kernel
theorem dX11_echoOf_60 : decode cX11_echoOf 60 = .ok (.iload_n 2, 1) := by decide +kernel
theorem dX11_echoOf_61 : decode cX11_echoOf 61 = .ok (.ireturn, 1) := by decide +kernel
theorem dX11_echoOf_62 : decode cX11_echoOf 62 = .ok (.iinc 4 1, 3) := by decide +kernel
theorem dX11_echoOf_65 : decode cX11_echoOf 65 = .ok (.goto (-35), 3) := by decide +kernel
theorem dX11_echoOf_68 : decode cX11_echoOf 68 = .ok (.iinc 3 1, 3) := by decide +kernel
theorem dX11_echoOf_71 : decode cX11_echoOf 71 = .ok (.goto (-58), 3) := by decide +kernel
theorem dX11_echoOf_74 : decode cX11_echoOf 74 = .ok (.iinc 2 (-1), 3) := by decide +kernel
theorem dX11_echoOf_77 : decode cX11_echoOf 77 = .ok (.goto (-70), 3) := by decide +kernel
theorem dX11_echoOf_80 : decode cX11_echoOf 80 = .ok (.iload_n 1, 1) := by decide +kernel
theorem dX11_echoOf_81 : decode cX11_echoOf 81 = .ok (.ifCond .eq 7, 3) := by decide +kernel
theorem dX11_echoOf_84 : decode cX11_echoOf 84 = .ok (.iconst (-1), 1) := by decide +kernel
theorem dX11_echoOf_85 : decode cX11_echoOf 85 = .ok (.goto 4, 3) := by decide +kernel
theorem dX11_echoOf_88 : decode cX11_echoOf 88 = .ok (.iconst 0, 1) := by decide +kernel
theorem dX11_echoOf_89 : decode cX11_echoOf 89 = .ok (.ireturn, 1) := by decide +kernel
theorem dX11_roof_0 : decode cX11_roof 0 = .ok (.aload_n 0, 1) := by decide +kernel
theorem dX11_roof_1 : decode cX11_roof 1 = .ok (.iload_n 1, 1) := by decide +kernel
theorem dX11_roof_2 : decode cX11_roof 2 = .ok (.invokevirtual 197, 3) := by decide +kernel
theorem dX11_roof_5 : decode cX11_roof 5 = .ok (.ifCond .ne 6, 3) := by decide +kernel
theorem dX11_roof_8 : decode cX11_roof 8 = .ok (.bipush (-2), 2) := by decide +kernel
theorem dX11_roof_10 : decode cX11_roof 10 = .ok (.ireturn, 1) := by decide +kernel
theorem dX11_roof_11 : decode cX11_roof 11 = .ok (.iload_n 2, 1) := by decide +kernel
theorem dX11_roof_12 : decode cX11_roof 12 = .ok (.tableswitch 91 0 6 #[44, 49, 55, 60, 60, 75, 75], 44) := by decide +kernel
theorem dX11_roof_56 : decode cX11_roof 56 = .ok (.aload_n 0, 1) := by decide +kernel
theorem dX11_roof_57 : decode cX11_roof 57 = .ok (.invokevirtual 323, 3) := by decide +kernel
theorem dX11_roof_60 : decode cX11_roof 60 = .ok (.ireturn, 1) := by decide +kernel
theorem dX11_roof_61 : decode cX11_roof 61 = .ok (.aload_n 0, 1) := by decide +kernel
theorem dX11_roof_62 : decode cX11_roof 62 = .ok (.iconst 0, 1) := by decide +kernel
theorem dX11_roof_63 : decode cX11_roof 63 = .ok (.invokevirtual 314, 3) := by decide +kernel
theorem dX11_roof_66 : decode cX11_roof 66 = .ok (.ireturn, 1) := by decide +kernel
theorem dX11_roof_67 : decode cX11_roof 67 = .ok (.aload_n 0, 1) := by decide +kernel
theorem dX11_roof_68 : decode cX11_roof 68 = .ok (.invokevirtual 326, 3) := by decide +kernel
theorem dX11_roof_71 : decode cX11_roof 71 = .ok (.ireturn, 1) := by decide +kernel
theorem dX11_roof_72 : decode cX11_roof 72 = .ok (.aload_n 0, 1) := by decide +kernel
theorem dX11_roof_73 : decode cX11_roof 73 = .ok (.iload_n 2, 1) := by decide +kernel
theorem dX11_roof_74 : decode cX11_roof 74 = .ok (.iconst 4, 1) := by decide +kernel
theorem dX11_roof_75 : decode cX11_roof 75 = .ok (.if_icmp .ne 7, 3) := by decide +kernel
theorem dX11_roof_78 : decode cX11_roof 78 = .ok (.iconst 1, 1) := by decide +kernel
theorem dX11_roof_79 : decode cX11_roof 79 = .ok (.goto 4, 3) := by decide +kernel
theorem dX11_roof_82 : decode cX11_roof 82 = .ok (.iconst 0, 1) := by decide +kernel
theorem dX11_roof_83 : decode cX11_roof 83 = .ok (.invokevirtual 329, 3) := by decide +kernel
theorem dX11_roof_86 : decode cX11_roof 86 = .ok (.ireturn, 1) := by decide +kernel
theorem dX11_roof_87 : decode cX11_roof 87 = .ok (.aload_n 0, 1) := by decide +kernel
theorem dX11_roof_88 : decode cX11_roof 88 = .ok (.iload_n 2, 1) := by decide +kernel
theorem dX11_roof_89 : decode cX11_roof 89 = .ok (.bipush 6, 2) := by decide +kernel
theorem dX11_roof_91 : decode cX11_roof 91 = .ok (.if_icmp .ne 7, 3) := by decide +kernel
theorem dX11_roof_94 : decode cX11_roof 94 = .ok (.iconst 1, 1) := by decide +kernel
theorem dX11_roof_95 : decode cX11_roof 95 = .ok (.goto 4, 3) := by decide +kernel
theorem dX11_roof_98 : decode cX11_roof 98 = .ok (.iconst 0, 1) := by decide +kernel
theorem dX11_roof_99 : decode cX11_roof 99 = .ok (.invokevirtual 333, 3) := by decide +kernel
theorem dX11_roof_102 : decode cX11_roof 102 = .ok (.ireturn, 1) := by decide +kernel
theorem dX11_roof_103 : decode cX11_roof 103 = .ok (.aload_n 0, 1) := by decide +kernel
theorem dX11_roof_104 : decode cX11_roof 104 = .ok (.iload_n 2, 1) := by decide +kernel
theorem dX11_roof_105 : decode cX11_roof 105 = .ok (.bipush 10, 2) := by decide +kernel
theorem dX11_roof_107 : decode cX11_roof 107 = .ok (.isub, 1) := by decide +kernel
theorem dX11_roof_108 : decode cX11_roof 108 = .ok (.invokevirtual 209, 3) := by decide +kernel
theorem dX11_roof_111 : decode cX11_roof 111 = .ok (.ifCond .eq 14, 3) := by decide +kernel
theorem dX11_roof_114 : decode cX11_roof 114 = .ok (.aload_n 0, 1) := by decide +kernel
theorem dX11_roof_115 : decode cX11_roof 115 = .ok (.iload_n 2, 1) := by decide +kernel
theorem dX11_roof_116 : decode cX11_roof 116 = .ok (.bipush 10, 2) := by decide +kernel
theorem dX11_roof_118 : decode cX11_roof 118 = .ok (.isub, 1) := by decide +kernel
theorem dX11_roof_119 : decode cX11_roof 119 = .ok (.invokevirtual 317, 3) := by decide +kernel
theorem dX11_roof_122 : decode cX11_roof 122 = .ok (.goto 5, 3) := by decide +kernel
theorem dX11_roof_125 : decode cX11_roof 125 = .ok (.bipush (-2), 2) := by decide +kernel
theorem dX11_roof_127 : decode cX11_roof 127 = .ok (.ireturn, 1) := by decide +kernel
theorem dX11_sleep_0 : decode cX11_sleep 0 = .ok (.aload_n 0, 1) := by decide +kernel
theorem dX11_sleep_1 : decode cX11_sleep 1 = .ok (.iload_n 1, 1) := by decide +kernel
theorem dX11_sleep_2 : decode cX11_sleep 2 = .ok (.invokevirtual 197, 3) := by decide +kernel
theorem dX11_sleep_5 : decode cX11_sleep 5 = .ok (.ifCond .eq 11, 3) := by decide +kernel
theorem dX11_sleep_8 : decode cX11_sleep 8 = .ok (.aload_n 0, 1) := by decide +kernel
theorem dX11_sleep_9 : decode cX11_sleep 9 = .ok (.iload_n 2, 1) := by decide +kernel
theorem dX11_sleep_10 : decode cX11_sleep 10 = .ok (.invokevirtual 200, 3) := by decide +kernel
theorem dX11_sleep_13 : decode cX11_sleep 13 = .ok (.ifCond .ne 7, 3) := by decide +kernel
theorem dX11_sleep_16 : decode cX11_sleep 16 = .ok (.ldc2_w 301, 3) := by decide +kernel
theorem dX11_sleep_19 : decode cX11_sleep 19 = .ok (.lreturn, 1) := by decide +kernel
theorem dX11_sleep_20 : decode cX11_sleep 20 = .ok (.aload_n 0, 1) := by decide +kernel
theorem dX11_sleep_21 : decode cX11_sleep 21 = .ok (.invokevirtual 303, 3) := by decide +kernel
theorem dX11_sleep_24 : decode cX11_sleep 24 = .ok (.aload_n 0, 1) := by decide +kernel
theorem dX11_sleep_25 : decode cX11_sleep 25 = .ok (.iload_n 2, 1) := by decide +kernel
theorem dX11_sleep_26 : decode cX11_sleep 26 = .ok (.invokevirtual 298, 3) := by decide +kernel
theorem dX11_sleep_29 : decode cX11_sleep 29 = .ok (.lstore 4, 2) := by decide +kernel
theorem dX11_sleep_31 : decode cX11_sleep 31 = .ok (.iload_n 3, 1) := by decide +kernel
theorem dX11_sleep_32 : decode cX11_sleep 32 = .ok (.ifCond .eq 13, 3) := by decide +kernel
theorem dX11_sleep_35 : decode cX11_sleep 35 = .ok (.aload_n 0, 1) := by decide +kernel
theorem dX11_sleep_36 : decode cX11_sleep 36 = .ok (.getfield 188, 3) := by decide +kernel
theorem dX11_sleep_39 : decode cX11_sleep 39 = .ok (.invokestatic 294, 3) := by decide +kernel
theorem dX11_sleep_42 : decode cX11_sleep 42 = .ok (.goto 5, 3) := by decide +kernel
theorem dX11_sleep_45 : decode cX11_sleep 45 = .ok (.lload 4, 2) := by decide +kernel
theorem dX11_sleep_47 : decode cX11_sleep 47 = .ok (.lload 4, 2) := by decide +kernel
theorem dX11_sleep_49 : decode cX11_sleep 49 = .ok (.aload_n 0, 1) := by decide +kernel
theorem dX11_sleep_50 : decode cX11_sleep 50 = .ok (.getfield 188, 3) := by decide +kernel
theorem dX11_sleep_53 : decode cX11_sleep 53 = .ok (.invokestatic 294, 3) := by decide +kernel
theorem dX11_sleep_56 : decode cX11_sleep 56 = .ok (.invokestatic 310, 3) := by decide +kernel
theorem dX11_sleep_59 : decode cX11_sleep 59 = .ok (.ldiv, 1) := by decide +kernel
theorem dX11_sleep_60 : decode cX11_sleep 60 = .ok (.lreturn, 1) := by decide +kernel
theorem dX11_census_0 : decode cX11_census 0 = .ok (.aload_n 0, 1) := by decide +kernel
theorem dX11_census_1 : decode cX11_census 1 = .ok (.iload_n 1, 1) := by decide +kernel
theorem dX11_census_2 : decode cX11_census 2 = .ok (.invokevirtual 197, 3) := by decide +kernel
theorem dX11_census_5 : decode cX11_census 5 = .ok (.ifCond .eq 13, 3) := by decide +kernel
theorem dX11_census_8 : decode cX11_census 8 = .ok (.iload_n 2, 1) := by decide +kernel
theorem dX11_census_9 : decode cX11_census 9 = .ok (.iconst 0, 1) := by decide +kernel
theorem dX11_census_10 : decode cX11_census 10 = .ok (.bipush 54, 2) := by decide +kernel
theorem dX11_census_12 : decode cX11_census 12 = .ok (.invokestatic 123, 3) := by decide +kernel
theorem dX11_census_15 : decode cX11_census 15 = .ok (.ifCond .ne 7, 3) := by decide +kernel
theorem dX11_census_18 : decode cX11_census 18 = .ok (.ldc2_w 301, 3) := by decide +kernel
theorem dX11_census_21 : decode cX11_census 21 = .ok (.lreturn, 1) := by decide +kernel
theorem dX11_census_22 : decode cX11_census 22 = .ok (.aload_n 0, 1) := by decide +kernel
theorem dX11_census_23 : decode cX11_census 23 = .ok (.invokevirtual 303, 3) := by decide +kernel
theorem dX11_census_26 : decode cX11_census 26 = .ok (.iconst (-1), 1) := by decide +kernel
theorem dX11_census_27 : decode cX11_census 27 = .ok (.istore 4, 2) := by decide +kernel
theorem dX11_census_29 : decode cX11_census 29 = .ok (.iconst 0, 1) := by decide +kernel
theorem dX11_census_30 : decode cX11_census 30 = .ok (.istore 5, 2) := by decide +kernel
theorem dX11_census_32 : decode cX11_census 32 = .ok (.iload 5, 2) := by decide +kernel
theorem dX11_census_34 : decode cX11_census 34 = .ok (.aload_n 0, 1) := by decide +kernel
theorem dX11_census_35 : decode cX11_census 35 = .ok (.getfield 185, 3) := by decide +kernel
theorem dX11_census_38 : decode cX11_census 38 = .ok (.if_icmp .ge 28, 3) := by decide +kernel
theorem dX11_census_41 : decode cX11_census 41 = .ok (.aload_n 0, 1) := by decide +kernel
theorem dX11_census_42 : decode cX11_census 42 = .ok (.iload 5, 2) := by decide +kernel
theorem dX11_census_44 : decode cX11_census 44 = .ok (.invokevirtual 314, 3) := by decide +kernel
theorem dX11_census_47 : decode cX11_census 47 = .ok (.iload_n 2, 1) := by decide +kernel
theorem dX11_census_48 : decode cX11_census 48 = .ok (.if_icmp .lt 8, 3) := by decide +kernel
theorem dX11_census_51 : decode cX11_census 51 = .ok (.iload 5, 2) := by decide +kernel
theorem dX11_census_53 : decode cX11_census 53 = .ok (.goto 5, 3) := by decide +kernel
theorem dX11_census_56 : decode cX11_census 56 = .ok (.iload 4, 2) := by decide +kernel
theorem dX11_census_58 : decode cX11_census 58 = .ok (.istore 4, 2) := by decide +kernel
theorem dX11_census_60 : decode cX11_census 60 = .ok (.iinc 5 1, 3) := by decide +kernel
theorem dX11_census_63 : decode cX11_census 63 = .ok (.goto (-31), 3) := by decide +kernel
theorem dX11_census_66 : decode cX11_census 66 = .ok (.iload_n 2, 1) := by decide +kernel
theorem dX11_census_67 : decode cX11_census 67 = .ok (.ifCond .ne 13, 3) := by decide +kernel
theorem dX11_census_70 : decode cX11_census 70 = .ok (.aload_n 0, 1) := by decide +kernel
theorem dX11_census_71 : decode cX11_census 71 = .ok (.getfield 188, 3) := by decide +kernel
theorem dX11_census_74 : decode cX11_census 74 = .ok (.invokestatic 294, 3) := by decide +kernel
theorem dX11_census_77 : decode cX11_census 77 = .ok (.goto 27, 3) := by decide +kernel
theorem dX11_census_80 : decode cX11_census 80 = .ok (.iload 4, 2) := by decide +kernel
theorem dX11_census_82 : decode cX11_census 82 = .ok (.iconst (-1), 1) := by decide +kernel
theorem dX11_census_83 : decode cX11_census 83 = .ok (.if_icmp .ne 7, 3) := by decide +kernel
theorem dX11_census_86 : decode cX11_census 86 = .ok (.lconst 0, 1) := by decide +kernel
theorem dX11_census_87 : decode cX11_census 87 = .ok (.goto 17, 3) := by decide +kernel
theorem dX11_census_90 : decode cX11_census 90 = .ok (.aload_n 0, 1) := by decide +kernel
theorem dX11_census_91 : decode cX11_census 91 = .ok (.getfield 188, 3) := by decide +kernel
theorem dX11_census_94 : decode cX11_census 94 = .ok (.invokestatic 294, 3) := by decide +kernel
theorem dX11_census_97 : decode cX11_census 97 = .ok (.aload_n 0, 1) := by decide +kernel
theorem dX11_census_98 : decode cX11_census 98 = .ok (.iload 4, 2) := by decide +kernel
theorem dX11_census_100 : decode cX11_census 100 = .ok (.invokevirtual 298, 3) := by decide +kernel
theorem dX11_census_103 : decode cX11_census 103 = .ok (.lsub, 1) := by decide +kernel
theorem dX11_census_104 : decode cX11_census 104 = .ok (.lstore 5, 2) := by decide +kernel
theorem dX11_census_106 : decode cX11_census 106 = .ok (.iload_n 3, 1) := by decide +kernel
theorem dX11_census_107 : decode cX11_census 107 = .ok (.ifCond .eq 13, 3) := by decide +kernel
theorem dX11_census_110 : decode cX11_census 110 = .ok (.aload_n 0, 1) := by decide +kernel
theorem dX11_census_111 : decode cX11_census 111 = .ok (.getfield 188, 3) := by decide +kernel
theorem dX11_census_114 : decode cX11_census 114 = .ok (.invokestatic 294, 3) := by decide +kernel
theorem dX11_census_117 : decode cX11_census 117 = .ok (.goto 5, 3) := by decide +kernel
theorem dX11_census_120 : decode cX11_census 120 = .ok (.lload 5, 2) := by decide +kernel
theorem dX11_census_122 : decode cX11_census 122 = .ok (.lload 5, 2) := by decide +kernel
theorem dX11_census_124 : decode cX11_census 124 = .ok (.aload_n 0, 1) := by decide +kernel
theorem dX11_census_125 : decode cX11_census 125 = .ok (.getfield 188, 3) := by decide +kernel
theorem dX11_census_128 : decode cX11_census 128 = .ok (.invokestatic 294, 3) := by decide +kernel
theorem dX11_census_131 : decode cX11_census 131 = .ok (.invokestatic 310, 3) := by decide +kernel
theorem dX11_census_134 : decode cX11_census 134 = .ok (.ldiv, 1) := by decide +kernel
theorem dX11_census_135 : decode cX11_census 135 = .ok (.lreturn, 1) := by decide +kernel
theorem dX11_move_0 : decode cX11_move 0 = .ok (.aload_n 0, 1) := by decide +kernel
theorem dX11_move_1 : decode cX11_move 1 = .ok (.iload_n 1, 1) := by decide +kernel
theorem dX11_move_2 : decode cX11_move 2 = .ok (.invokevirtual 197, 3) := by decide +kernel
theorem dX11_move_5 : decode cX11_move 5 = .ok (.ifCond .eq 19, 3) := by decide +kernel
theorem dX11_move_8 : decode cX11_move 8 = .ok (.aload_n 0, 1) := by decide +kernel
theorem dX11_move_9 : decode cX11_move 9 = .ok (.iload_n 2, 1) := by decide +kernel
theorem dX11_move_10 : decode cX11_move 10 = .ok (.invokevirtual 200, 3) := by decide +kernel
theorem dX11_move_13 : decode cX11_move 13 = .ok (.ifCond .eq 11, 3) := by decide +kernel
theorem dX11_move_16 : decode cX11_move 16 = .ok (.aload_n 0, 1) := by decide +kernel
theorem dX11_move_17 : decode cX11_move 17 = .ok (.iload_n 3, 1) := by decide +kernel
theorem dX11_move_18 : decode cX11_move 18 = .ok (.invokevirtual 200, 3) := by decide +kernel
theorem dX11_move_21 : decode cX11_move 21 = .ok (.ifCond .ne 7, 3) := by decide +kernel
theorem dX11_move_24 : decode cX11_move 24 = .ok (.sipush (-999), 3) := by decide +kernel
theorem dX11_move_27 : decode cX11_move 27 = .ok (.ireturn, 1) := by decide +kernel
theorem dX11_move_28 : decode cX11_move 28 = .ok (.iconst 0, 1) := by decide +kernel
theorem dX11_move_29 : decode cX11_move 29 = .ok (.istore 4, 2) := by decide +kernel
theorem dX11_move_31 : decode cX11_move 31 = .ok (.iconst 0, 1) := by decide +kernel
theorem dX11_move_32 : decode cX11_move 32 = .ok (.istore 5, 2) := by decide +kernel
theorem dX11_move_34 : decode cX11_move 34 = .ok (.iload 5, 2) := by decide +kernel
theorem dX11_move_36 : decode cX11_move 36 = .ok (.aload_n 0, 1) := by decide +kernel
theorem dX11_move_37 : decode cX11_move 37 = .ok (.getfield 188, 3) := by decide +kernel
theorem dX11_move_40 : decode cX11_move 40 = .ok (.if_icmp .ge 48, 3) := by decide +kernel
theorem dX11_move_43 : decode cX11_move 43 = .ok (.iload 4, 2) := by decide +kernel
theorem dX11_move_45 : decode cX11_move 45 = .ok (.aload_n 0, 1) := by decide +kernel
theorem dX11_move_46 : decode cX11_move 46 = .ok (.iload 5, 2) := by decide +kernel
theorem dX11_move_48 : decode cX11_move 48 = .ok (.invokevirtual 194, 3) := by decide +kernel
theorem dX11_move_51 : decode cX11_move 51 = .ok (.ifCond .le 27, 3) := by decide +kernel
theorem dX11_move_54 : decode cX11_move 54 = .ok (.aload_n 0, 1) := by decide +kernel
theorem dX11_move_55 : decode cX11_move 55 = .ok (.iload 5, 2) := by decide +kernel
theorem dX11_move_57 : decode cX11_move 57 = .ok (.invokevirtual 265, 3) := by decide +kernel
theorem dX11_move_60 : decode cX11_move 60 = .ok (.iload_n 2, 1) := by decide +kernel
theorem dX11_move_61 : decode cX11_move 61 = .ok (.if_icmp .ne 17, 3) := by decide +kernel
theorem dX11_move_64 : decode cX11_move 64 = .ok (.aload_n 0, 1) := by decide +kernel
theorem dX11_move_65 : decode cX11_move 65 = .ok (.iload_n 3, 1) := by decide +kernel
theorem dX11_move_66 : decode cX11_move 66 = .ok (.invokevirtual 314, 3) := by decide +kernel
theorem dX11_move_69 : decode cX11_move 69 = .ok (.aload_n 0, 1) := by decide +kernel
theorem dX11_move_70 : decode cX11_move 70 = .ok (.iload_n 2, 1) := by decide +kernel
theorem dX11_move_71 : decode cX11_move 71 = .ok (.invokevirtual 314, 3) := by decide +kernel
theorem dX11_move_74 : decode cX11_move 74 = .ok (.isub, 1) := by decide +kernel
theorem dX11_move_75 : decode cX11_move 75 = .ok (.goto 4, 3) := by decide +kernel
theorem dX11_move_78 : decode cX11_move 78 = .ok (.iconst 0, 1) := by decide +kernel
theorem dX11_move_79 : decode cX11_move 79 = .ok (.iadd, 1) := by decide +kernel
theorem dX11_move_80 : decode cX11_move 80 = .ok (.istore 4, 2) := by decide +kernel
theorem dX11_move_82 : decode cX11_move 82 = .ok (.iinc 5 1, 3) := by decide +kernel
theorem dX11_move_85 : decode cX11_move 85 = .ok (.goto (-51), 3) := by decide +kernel
theorem dX11_move_88 : decode cX11_move 88 = .ok (.iload 4, 2) := by decide +kernel
theorem dX11_move_90 : decode cX11_move 90 = .ok (.ireturn, 1) := by decide +kernel
theorem dX11_barsOn_0 : decode cX11_barsOn 0 = .ok (.iconst 0, 1) := by decide +kernel
theorem dX11_barsOn_1 : decode cX11_barsOn 1 = .ok (.istore_n 2, 1) := by decide +kernel
theorem dX11_barsOn_2 : decode cX11_barsOn 2 = .ok (.iconst 0, 1) := by decide +kernel
theorem dX11_barsOn_3 : decode cX11_barsOn 3 = .ok (.istore_n 3, 1) := by decide +kernel
theorem dX11_barsOn_4 : decode cX11_barsOn 4 = .ok (.iload_n 3, 1) := by decide +kernel
theorem dX11_barsOn_5 : decode cX11_barsOn 5 = .ok (.aload_n 0, 1) := by decide +kernel
theorem dX11_barsOn_6 : decode cX11_barsOn 6 = .ok (.getfield 188, 3) := by decide +kernel
theorem dX11_barsOn_9 : decode cX11_barsOn 9 = .ok (.if_icmp .ge 34, 3) := by decide +kernel
theorem dX11_barsOn_12 : decode cX11_barsOn 12 = .ok (.iload_n 2, 1) := by decide +kernel
theorem dX11_barsOn_13 : decode cX11_barsOn 13 = .ok (.aload_n 0, 1) := by decide +kernel
theorem dX11_barsOn_14 : decode cX11_barsOn 14 = .ok (.iload_n 3, 1) := by decide +kernel
theorem dX11_barsOn_15 : decode cX11_barsOn 15 = .ok (.invokevirtual 194, 3) := by decide +kernel
theorem dX11_barsOn_18 : decode cX11_barsOn 18 = .ok (.ifCond .le 16, 3) := by decide +kernel
theorem dX11_barsOn_21 : decode cX11_barsOn 21 = .ok (.aload_n 0, 1) := by decide +kernel
theorem dX11_barsOn_22 : decode cX11_barsOn 22 = .ok (.iload_n 3, 1) := by decide +kernel
theorem dX11_barsOn_23 : decode cX11_barsOn 23 = .ok (.invokevirtual 265, 3) := by decide +kernel
theorem dX11_barsOn_26 : decode cX11_barsOn 26 = .ok (.iload_n 1, 1) := by decide +kernel
theorem dX11_barsOn_27 : decode cX11_barsOn 27 = .ok (.if_icmp .ne 7, 3) := by decide +kernel
theorem dX11_barsOn_30 : decode cX11_barsOn 30 = .ok (.iconst 1, 1) := by decide +kernel
theorem dX11_barsOn_31 : decode cX11_barsOn 31 = .ok (.goto 4, 3) := by decide +kernel
theorem dX11_barsOn_34 : decode cX11_barsOn 34 = .ok (.iconst 0, 1) := by decide +kernel
theorem dX11_barsOn_35 : decode cX11_barsOn 35 = .ok (.iadd, 1) := by decide +kernel
theorem dX11_barsOn_36 : decode cX11_barsOn 36 = .ok (.istore_n 2, 1) := by decide +kernel
theorem dX11_barsOn_37 : decode cX11_barsOn 37 = .ok (.iinc 3 1, 3) := by decide +kernel
theorem dX11_barsOn_40 : decode cX11_barsOn 40 = .ok (.goto (-36), 3) := by decide +kernel
theorem dX11_barsOn_43 : decode cX11_barsOn 43 = .ok (.iload_n 2, 1) := by decide +kernel
theorem dX11_barsOn_44 : decode cX11_barsOn 44 = .ok (.ireturn, 1) := by decide +kernel
theorem dX11_landing_0 : decode cX11_landing 0 = .ok (.aload_n 0, 1) := by decide +kernel
theorem dX11_landing_1 : decode cX11_landing 1 = .ok (.iload_n 1, 1) := by decide +kernel
theorem dX11_landing_2 : decode cX11_landing 2 = .ok (.invokevirtual 197, 3) := by decide +kernel
theorem dX11_landing_5 : decode cX11_landing 5 = .ok (.ifCond .ne 6, 3) := by decide +kernel
theorem dX11_landing_8 : decode cX11_landing 8 = .ok (.bipush (-2), 2) := by decide +kernel
theorem dX11_landing_10 : decode cX11_landing 10 = .ok (.ireturn, 1) := by decide +kernel
theorem dX11_landing_11 : decode cX11_landing 11 = .ok (.aload_n 0, 1) := by decide +kernel
theorem dX11_landing_12 : decode cX11_landing 12 = .ok (.getfield 185, 3) := by decide +kernel
theorem dX11_landing_15 : decode cX11_landing 15 = .ok (.ifCond .ne 7, 3) := by decide +kernel
theorem dX11_landing_18 : decode cX11_landing 18 = .ok (.iconst (-1), 1) := by decide +kernel
theorem dX11_landing_19 : decode cX11_landing 19 = .ok (.goto 4, 3) := by decide +kernel
theorem dX11_landing_22 : decode cX11_landing 22 = .ok (.iconst 0, 1) := by decide +kernel
theorem dX11_landing_23 : decode cX11_landing 23 = .ok (.istore_n 3, 1) := by decide +kernel
theorem dX11_landing_24 : decode cX11_landing 24 = .ok (.iconst 1, 1) := by decide +kernel
theorem dX11_landing_25 : decode cX11_landing 25 = .ok (.istore 4, 2) := by decide +kernel
theorem dX11_landing_27 : decode cX11_landing 27 = .ok (.iload 4, 2) := by decide +kernel
theorem dX11_landing_29 : decode cX11_landing 29 = .ok (.aload_n 0, 1) := by decide +kernel
theorem dX11_landing_30 : decode cX11_landing 30 = .ok (.getfield 185, 3) := by decide +kernel
theorem dX11_landing_33 : decode cX11_landing 33 = .ok (.if_icmp .ge 30, 3) := by decide +kernel
theorem dX11_landing_36 : decode cX11_landing 36 = .ok (.aload_n 0, 1) := by decide +kernel
theorem dX11_landing_37 : decode cX11_landing 37 = .ok (.iload 4, 2) := by decide +kernel
theorem dX11_landing_39 : decode cX11_landing 39 = .ok (.invokevirtual 336, 3) := by decide +kernel
theorem dX11_landing_42 : decode cX11_landing 42 = .ok (.aload_n 0, 1) := by decide +kernel
theorem dX11_landing_43 : decode cX11_landing 43 = .ok (.iload_n 3, 1) := by decide +kernel
theorem dX11_landing_44 : decode cX11_landing 44 = .ok (.invokevirtual 336, 3) := by decide +kernel
theorem dX11_landing_47 : decode cX11_landing 47 = .ok (.if_icmp .le 8, 3) := by decide +kernel
theorem dX11_landing_50 : decode cX11_landing 50 = .ok (.iload 4, 2) := by decide +kernel
theorem dX11_landing_52 : decode cX11_landing 52 = .ok (.goto 4, 3) := by decide +kernel
theorem dX11_landing_55 : decode cX11_landing 55 = .ok (.iload_n 3, 1) := by decide +kernel
theorem dX11_landing_56 : decode cX11_landing 56 = .ok (.istore_n 3, 1) := by decide +kernel
theorem dX11_landing_57 : decode cX11_landing 57 = .ok (.iinc 4 1, 3) := by decide +kernel
theorem dX11_landing_60 : decode cX11_landing 60 = .ok (.goto (-33), 3) := by decide +kernel
theorem dX11_landing_63 : decode cX11_landing 63 = .ok (.iload_n 2, 1) := by decide +kernel
theorem dX11_landing_64 : decode cX11_landing 64 = .ok (.ifCond .ne 7, 3) := by decide +kernel
theorem dX11_landing_67 : decode cX11_landing 67 = .ok (.iload_n 3, 1) := by decide +kernel
theorem dX11_landing_68 : decode cX11_landing 68 = .ok (.goto 17, 3) := by decide +kernel
theorem dX11_landing_71 : decode cX11_landing 71 = .ok (.iload_n 3, 1) := by decide +kernel
theorem dX11_landing_72 : decode cX11_landing 72 = .ok (.iconst (-1), 1) := by decide +kernel
theorem dX11_landing_73 : decode cX11_landing 73 = .ok (.if_icmp .ne 7, 3) := by decide +kernel
theorem dX11_landing_76 : decode cX11_landing 76 = .ok (.iconst 0, 1) := by decide +kernel
theorem dX11_landing_77 : decode cX11_landing 77 = .ok (.goto 8, 3) := by decide +kernel
theorem dX11_landing_80 : decode cX11_landing 80 = .ok (.aload_n 0, 1) := by decide +kernel
theorem dX11_landing_81 : decode cX11_landing 81 = .ok (.iload_n 3, 1) := by decide +kernel
theorem dX11_landing_82 : decode cX11_landing 82 = .ok (.invokevirtual 336, 3) := by decide +kernel
theorem dX11_landing_85 : decode cX11_landing 85 = .ok (.ireturn, 1) := by decide +kernel
theorem dX11_mayTurn_0 : decode cX11_mayTurn 0 = .ok (.iload_n 1, 1) := by decide +kernel
theorem dX11_mayTurn_1 : decode cX11_mayTurn 1 = .ok (.iconst 2, 1) := by decide +kernel
theorem dX11_mayTurn_2 : decode cX11_mayTurn 2 = .ok (.irem, 1) := by decide +kernel
theorem dX11_mayTurn_3 : decode cX11_mayTurn 3 = .ok (.ifCond .ne 44, 3) := by decide +kernel
theorem dX11_mayTurn_6 : decode cX11_mayTurn 6 = .ok (.iload_n 2, 1) := by decide +kernel
theorem dX11_mayTurn_7 : decode cX11_mayTurn 7 = .ok (.bipush 8, 2) := by decide +kernel
theorem dX11_mayTurn_9 : decode cX11_mayTurn 9 = .ok (.if_icmp .eq 32, 3) := by decide +kernel
theorem dX11_mayTurn_12 : decode cX11_mayTurn 12 = .ok (.aload_n 0, 1) := by decide +kernel
theorem dX11_mayTurn_13 : decode cX11_mayTurn 13 = .ok (.iload_n 2, 1) := by decide +kernel
theorem dX11_mayTurn_14 : decode cX11_mayTurn 14 = .ok (.invokevirtual 209, 3) := by decide +kernel
theorem dX11_mayTurn_17 : decode cX11_mayTurn 17 = .ok (.ifCond .eq 28, 3) := by decide +kernel
theorem dX11_mayTurn_20 : decode cX11_mayTurn 20 = .ok (.aload_n 0, 1) := by decide +kernel
theorem dX11_mayTurn_21 : decode cX11_mayTurn 21 = .ok (.iload_n 2, 1) := by decide +kernel
theorem dX11_mayTurn_22 : decode cX11_mayTurn 22 = .ok (.invokevirtual 194, 3) := by decide +kernel
theorem dX11_mayTurn_25 : decode cX11_mayTurn 25 = .ok (.ifCond .le 20, 3) := by decide +kernel
theorem dX11_mayTurn_28 : decode cX11_mayTurn 28 = .ok (.aload_n 0, 1) := by decide +kernel
theorem dX11_mayTurn_29 : decode cX11_mayTurn 29 = .ok (.getfield 38, 3) := by decide +kernel
theorem dX11_mayTurn_32 : decode cX11_mayTurn 32 = .ok (.iload_n 1, 1) := by decide +kernel
theorem dX11_mayTurn_33 : decode cX11_mayTurn 33 = .ok (.iaload, 1) := by decide +kernel
theorem dX11_mayTurn_34 : decode cX11_mayTurn 34 = .ok (.iload_n 2, 1) := by decide +kernel
theorem dX11_mayTurn_35 : decode cX11_mayTurn 35 = .ok (.ishr, 1) := by decide +kernel
theorem dX11_mayTurn_36 : decode cX11_mayTurn 36 = .ok (.iconst 1, 1) := by decide +kernel
theorem dX11_mayTurn_37 : decode cX11_mayTurn 37 = .ok (.iand, 1) := by decide +kernel
theorem dX11_mayTurn_38 : decode cX11_mayTurn 38 = .ok (.ifCond .ne 7, 3) := by decide +kernel
theorem dX11_mayTurn_41 : decode cX11_mayTurn 41 = .ok (.iconst 1, 1) := by decide +kernel
theorem dX11_mayTurn_42 : decode cX11_mayTurn 42 = .ok (.goto 4, 3) := by decide +kernel
theorem dX11_mayTurn_45 : decode cX11_mayTurn 45 = .ok (.iconst 0, 1) := by decide +kernel
theorem dX11_mayTurn_46 : decode cX11_mayTurn 46 = .ok (.ireturn, 1) := by decide +kernel
theorem dX11_mayTurn_47 : decode cX11_mayTurn 47 = .ok (.iload_n 2, 1) := by decide +kernel
theorem dX11_mayTurn_48 : decode cX11_mayTurn 48 = .ok (.bipush 6, 2) := by decide +kernel
theorem dX11_mayTurn_50 : decode cX11_mayTurn 50 = .ok (.if_icmp .ne 5, 3) := by decide +kernel
theorem dX11_mayTurn_53 : decode cX11_mayTurn 53 = .ok (.iconst 1, 1) := by decide +kernel
theorem dX11_mayTurn_54 : decode cX11_mayTurn 54 = .ok (.ireturn, 1) := by decide +kernel
theorem dX11_mayTurn_55 : decode cX11_mayTurn 55 = .ok (.iconst 0, 1) := by decide +kernel
theorem dX11_mayTurn_56 : decode cX11_mayTurn 56 = .ok (.istore_n 3, 1) := by decide +kernel
theorem dX11_mayTurn_57 : decode cX11_mayTurn 57 = .ok (.iconst 0, 1) := by decide +kernel
theorem dX11_mayTurn_58 : decode cX11_mayTurn 58 = .ok (.istore 4, 2) := by decide +kernel
theorem dX11_mayTurn_60 : decode cX11_mayTurn 60 = .ok (.iload 4, 2) := by decide +kernel
theorem dX11_mayTurn_62 : decode cX11_mayTurn 62 = .ok (.aload_n 0, 1) := by decide +kernel
theorem dX11_mayTurn_63 : decode cX11_mayTurn 63 = .ok (.getfield 188, 3) := by decide +kernel
theorem dX11_mayTurn_66 : decode cX11_mayTurn 66 = .ok (.if_icmp .ge 44, 3) := by decide +kernel
theorem dX11_mayTurn_69 : decode cX11_mayTurn 69 = .ok (.iload_n 3, 1) := by decide +kernel
theorem dX11_mayTurn_70 : decode cX11_mayTurn 70 = .ok (.ifCond .ne 28, 3) := by decide +kernel
theorem dX11_mayTurn_73 : decode cX11_mayTurn 73 = .ok (.aload_n 0, 1) := by decide +kernel
theorem dX11_mayTurn_74 : decode cX11_mayTurn 74 = .ok (.getfield 38, 3) := by decide +kernel
theorem dX11_mayTurn_77 : decode cX11_mayTurn 77 = .ok (.iload_n 1, 1) := by decide +kernel
theorem dX11_mayTurn_78 : decode cX11_mayTurn 78 = .ok (.iaload, 1) := by decide +kernel
theorem dX11_mayTurn_79 : decode cX11_mayTurn 79 = .ok (.iload 4, 2) := by decide +kernel
theorem dX11_mayTurn_81 : decode cX11_mayTurn 81 = .ok (.ishr, 1) := by decide +kernel
theorem dX11_mayTurn_82 : decode cX11_mayTurn 82 = .ok (.iconst 1, 1) := by decide +kernel
theorem dX11_mayTurn_83 : decode cX11_mayTurn 83 = .ok (.iand, 1) := by decide +kernel
theorem dX11_mayTurn_84 : decode cX11_mayTurn 84 = .ok (.iconst 1, 1) := by decide +kernel
theorem dX11_mayTurn_85 : decode cX11_mayTurn 85 = .ok (.if_icmp .ne 17, 3) := by decide +kernel
theorem dX11_mayTurn_88 : decode cX11_mayTurn 88 = .ok (.aload_n 0, 1) := by decide +kernel
theorem dX11_mayTurn_89 : decode cX11_mayTurn 89 = .ok (.iload 4, 2) := by decide +kernel
theorem dX11_mayTurn_91 : decode cX11_mayTurn 91 = .ok (.invokevirtual 265, 3) := by decide +kernel
theorem dX11_mayTurn_94 : decode cX11_mayTurn 94 = .ok (.iload_n 2, 1) := by decide +kernel
theorem dX11_mayTurn_95 : decode cX11_mayTurn 95 = .ok (.if_icmp .gt 7, 3) := by decide +kernel
theorem dX11_mayTurn_98 : decode cX11_mayTurn 98 = .ok (.iconst 1, 1) := by decide +kernel
theorem dX11_mayTurn_99 : decode cX11_mayTurn 99 = .ok (.goto 4, 3) := by decide +kernel
theorem dX11_mayTurn_102 : decode cX11_mayTurn 102 = .ok (.iconst 0, 1) := by decide +kernel
theorem dX11_mayTurn_103 : decode cX11_mayTurn 103 = .ok (.istore_n 3, 1) := by decide +kernel
theorem dX11_mayTurn_104 : decode cX11_mayTurn 104 = .ok (.iinc 4 1, 3) := by decide +kernel
theorem dX11_mayTurn_107 : decode cX11_mayTurn 107 = .ok (.goto (-47), 3) := by decide +kernel
theorem dX11_mayTurn_110 : decode cX11_mayTurn 110 = .ok (.aload_n 0, 1) := by decide +kernel
theorem dX11_mayTurn_111 : decode cX11_mayTurn 111 = .ok (.iload_n 2, 1) := by decide +kernel
theorem dX11_mayTurn_112 : decode cX11_mayTurn 112 = .ok (.invokevirtual 200, 3) := by decide +kernel
theorem dX11_mayTurn_115 : decode cX11_mayTurn 115 = .ok (.ifCond .eq 24, 3) := by decide +kernel
theorem dX11_mayTurn_118 : decode cX11_mayTurn 118 = .ok (.iload_n 3, 1) := by decide +kernel
theorem dX11_mayTurn_119 : decode cX11_mayTurn 119 = .ok (.ifCond .eq 20, 3) := by decide +kernel
theorem dX11_mayTurn_122 : decode cX11_mayTurn 122 = .ok (.aload_n 0, 1) := by decide +kernel
theorem dX11_mayTurn_123 : decode cX11_mayTurn 123 = .ok (.getfield 41, 3) := by decide +kernel
theorem dX11_mayTurn_126 : decode cX11_mayTurn 126 = .ok (.iload_n 1, 1) := by decide +kernel
theorem dX11_mayTurn_127 : decode cX11_mayTurn 127 = .ok (.iaload, 1) := by decide +kernel
theorem dX11_mayTurn_128 : decode cX11_mayTurn 128 = .ok (.iload_n 2, 1) := by decide +kernel
theorem dX11_mayTurn_129 : decode cX11_mayTurn 129 = .ok (.ishr, 1) := by decide +kernel
theorem dX11_mayTurn_130 : decode cX11_mayTurn 130 = .ok (.iconst 1, 1) := by decide +kernel
theorem dX11_mayTurn_131 : decode cX11_mayTurn 131 = .ok (.iand, 1) := by decide +kernel
theorem dX11_mayTurn_132 : decode cX11_mayTurn 132 = .ok (.ifCond .ne 7, 3) := by decide +kernel
theorem dX11_mayTurn_135 : decode cX11_mayTurn 135 = .ok (.iconst 1, 1) := by decide +kernel
theorem dX11_mayTurn_136 : decode cX11_mayTurn 136 = .ok (.goto 4, 3) := by decide +kernel
theorem dX11_mayTurn_139 : decode cX11_mayTurn 139 = .ok (.iconst 0, 1) := by decide +kernel
theorem dX11_mayTurn_140 : decode cX11_mayTurn 140 = .ok (.ireturn, 1) := by decide +kernel
theorem dX11_endsWith_0 : decode cX11_endsWith 0 = .ok (.iconst 0, 1) := by decide +kernel
theorem dX11_endsWith_1 : decode cX11_endsWith 1 = .ok (.istore_n 2, 1) := by decide +kernel
theorem dX11_endsWith_2 : decode cX11_endsWith 2 = .ok (.iconst 0, 1) := by decide +kernel
theorem dX11_endsWith_3 : decode cX11_endsWith 3 = .ok (.istore_n 3, 1) := by decide +kernel
theorem dX11_endsWith_4 : decode cX11_endsWith 4 = .ok (.iload_n 3, 1) := by decide +kernel
theorem dX11_endsWith_5 : decode cX11_endsWith 5 = .ok (.aload_n 0, 1) := by decide +kernel
theorem dX11_endsWith_6 : decode cX11_endsWith 6 = .ok (.getfield 188, 3) := by decide +kernel
theorem dX11_endsWith_9 : decode cX11_endsWith 9 = .ok (.if_icmp .ge 28, 3) := by decide +kernel
theorem dX11_endsWith_12 : decode cX11_endsWith 12 = .ok (.iload_n 2, 1) := by decide +kernel
theorem dX11_endsWith_13 : decode cX11_endsWith 13 = .ok (.aload_n 0, 1) := by decide +kernel
theorem dX11_endsWith_14 : decode cX11_endsWith 14 = .ok (.getfield 38, 3) := by decide +kernel
theorem dX11_endsWith_17 : decode cX11_endsWith 17 = .ok (.iload_n 1, 1) := by decide +kernel
theorem dX11_endsWith_18 : decode cX11_endsWith 18 = .ok (.iaload, 1) := by decide +kernel
theorem dX11_endsWith_19 : decode cX11_endsWith 19 = .ok (.iload_n 3, 1) := by decide +kernel
theorem dX11_endsWith_20 : decode cX11_endsWith 20 = .ok (.ishr, 1) := by decide +kernel
theorem dX11_endsWith_21 : decode cX11_endsWith 21 = .ok (.iconst 1, 1) := by decide +kernel
theorem dX11_endsWith_22 : decode cX11_endsWith 22 = .ok (.iand, 1) := by decide +kernel
theorem dX11_endsWith_23 : decode cX11_endsWith 23 = .ok (.aload_n 0, 1) := by decide +kernel
theorem dX11_endsWith_24 : decode cX11_endsWith 24 = .ok (.iload_n 3, 1) := by decide +kernel
theorem dX11_endsWith_25 : decode cX11_endsWith 25 = .ok (.invokevirtual 231, 3) := by decide +kernel
theorem dX11_endsWith_28 : decode cX11_endsWith 28 = .ok (.imul, 1) := by decide +kernel
theorem dX11_endsWith_29 : decode cX11_endsWith 29 = .ok (.iadd, 1) := by decide +kernel
theorem dX11_endsWith_30 : decode cX11_endsWith 30 = .ok (.istore_n 2, 1) := by decide +kernel
theorem dX11_endsWith_31 : decode cX11_endsWith 31 = .ok (.iinc 3 1, 3) := by decide +kernel
theorem dX11_endsWith_34 : decode cX11_endsWith 34 = .ok (.goto (-30), 3) := by decide +kernel
theorem dX11_endsWith_37 : decode cX11_endsWith 37 = .ok (.iconst 0, 1) := by decide +kernel
theorem dX11_endsWith_38 : decode cX11_endsWith 38 = .ok (.istore_n 3, 1) := by decide +kernel
theorem dX11_endsWith_39 : decode cX11_endsWith 39 = .ok (.iload_n 3, 1) := by decide +kernel
theorem dX11_endsWith_40 : decode cX11_endsWith 40 = .ok (.aload_n 0, 1) := by decide +kernel
theorem dX11_endsWith_41 : decode cX11_endsWith 41 = .ok (.getfield 185, 3) := by decide +kernel
theorem dX11_endsWith_44 : decode cX11_endsWith 44 = .ok (.if_icmp .ge 28, 3) := by decide +kernel
theorem dX11_endsWith_47 : decode cX11_endsWith 47 = .ok (.iload_n 2, 1) := by decide +kernel
theorem dX11_endsWith_48 : decode cX11_endsWith 48 = .ok (.aload_n 0, 1) := by decide +kernel
theorem dX11_endsWith_49 : decode cX11_endsWith 49 = .ok (.getfield 41, 3) := by decide +kernel
theorem dX11_endsWith_52 : decode cX11_endsWith 52 = .ok (.iload_n 1, 1) := by decide +kernel
theorem dX11_endsWith_53 : decode cX11_endsWith 53 = .ok (.iaload, 1) := by decide +kernel
theorem dX11_endsWith_54 : decode cX11_endsWith 54 = .ok (.iload_n 3, 1) := by decide +kernel
theorem dX11_endsWith_55 : decode cX11_endsWith 55 = .ok (.ishr, 1) := by decide +kernel
theorem dX11_endsWith_56 : decode cX11_endsWith 56 = .ok (.iconst 1, 1) := by decide +kernel
theorem dX11_endsWith_57 : decode cX11_endsWith 57 = .ok (.iand, 1) := by decide +kernel
theorem dX11_endsWith_58 : decode cX11_endsWith 58 = .ok (.aload_n 0, 1) := by decide +kernel
theorem dX11_endsWith_59 : decode cX11_endsWith 59 = .ok (.iload_n 3, 1) := by decide +kernel
theorem dX11_endsWith_60 : decode cX11_endsWith 60 = .ok (.invokevirtual 203, 3) := by decide +kernel
theorem dX11_endsWith_63 : decode cX11_endsWith 63 = .ok (.imul, 1) := by decide +kernel
theorem dX11_endsWith_64 : decode cX11_endsWith 64 = .ok (.isub, 1) := by decide +kernel
theorem dX11_endsWith_65 : decode cX11_endsWith 65 = .ok (.istore_n 2, 1) := by decide +kernel
theorem dX11_endsWith_66 : decode cX11_endsWith 66 = .ok (.iinc 3 1, 3) := by decide +kernel
theorem dX11_endsWith_69 : decode cX11_endsWith 69 = .ok (.goto (-30), 3) := by decide +kernel
theorem dX11_endsWith_72 : decode cX11_endsWith 72 = .ok (.iload_n 2, 1) := by decide +kernel
theorem dX11_endsWith_73 : decode cX11_endsWith 73 = .ok (.ireturn, 1) := by decide +kernel
theorem dX11_turns_0 : decode cX11_turns 0 = .ok (.aload_n 0, 1) := by decide +kernel
theorem dX11_turns_1 : decode cX11_turns 1 = .ok (.getfield 47, 3) := by decide +kernel
theorem dX11_turns_4 : decode cX11_turns 4 = .ok (.iload_n 1, 1) := by decide +kernel
theorem dX11_turns_5 : decode cX11_turns 5 = .ok (.iaload, 1) := by decide +kernel
theorem dX11_turns_6 : decode cX11_turns 6 = .ok (.ldc 221, 2) := by decide +kernel
theorem dX11_turns_8 : decode cX11_turns 8 = .ok (.if_icmp .eq 33, 3) := by decide +kernel
theorem dX11_turns_11 : decode cX11_turns 11 = .ok (.iload_n 1, 1) := by decide +kernel
theorem dX11_turns_12 : decode cX11_turns 12 = .ok (.iconst 2, 1) := by decide +kernel
theorem dX11_turns_13 : decode cX11_turns 13 = .ok (.irem, 1) := by decide +kernel
theorem dX11_turns_14 : decode cX11_turns 14 = .ok (.ifCond .ne 16, 3) := by decide +kernel
theorem dX11_turns_17 : decode cX11_turns 17 = .ok (.iload_n 2, 1) := by decide +kernel
theorem dX11_turns_18 : decode cX11_turns 18 = .ok (.aload_n 0, 1) := by decide +kernel
theorem dX11_turns_19 : decode cX11_turns 19 = .ok (.getfield 47, 3) := by decide +kernel
theorem dX11_turns_22 : decode cX11_turns 22 = .ok (.iload_n 1, 1) := by decide +kernel
theorem dX11_turns_23 : decode cX11_turns 23 = .ok (.iaload, 1) := by decide +kernel
theorem dX11_turns_24 : decode cX11_turns 24 = .ok (.if_icmp .gt 17, 3) := by decide +kernel
theorem dX11_turns_27 : decode cX11_turns 27 = .ok (.goto 13, 3) := by decide +kernel
theorem dX11_turns_30 : decode cX11_turns 30 = .ok (.iload_n 2, 1) := by decide +kernel
theorem dX11_turns_31 : decode cX11_turns 31 = .ok (.aload_n 0, 1) := by decide +kernel
theorem dX11_turns_32 : decode cX11_turns 32 = .ok (.getfield 47, 3) := by decide +kernel
theorem dX11_turns_35 : decode cX11_turns 35 = .ok (.iload_n 1, 1) := by decide +kernel
theorem dX11_turns_36 : decode cX11_turns 36 = .ok (.iaload, 1) := by decide +kernel
theorem dX11_turns_37 : decode cX11_turns 37 = .ok (.if_icmp .lt 4, 3) := by decide +kernel
theorem dX11_turns_40 : decode cX11_turns 40 = .ok (.return_, 1) := by decide +kernel
theorem dX11_turns_41 : decode cX11_turns 41 = .ok (.aload_n 0, 1) := by decide +kernel
theorem dX11_turns_42 : decode cX11_turns 42 = .ok (.getfield 47, 3) := by decide +kernel
theorem dX11_turns_45 : decode cX11_turns 45 = .ok (.iload_n 1, 1) := by decide +kernel
theorem dX11_turns_46 : decode cX11_turns 46 = .ok (.iload_n 2, 1) := by decide +kernel
theorem dX11_turns_47 : decode cX11_turns 47 = .ok (.iastore, 1) := by decide +kernel
theorem dX11_turns_48 : decode cX11_turns 48 = .ok (.iload_n 1, 1) := by decide +kernel
theorem dX11_turns_49 : decode cX11_turns 49 = .ok (.ifCond .ne 13, 3) := by decide +kernel
theorem dX11_turns_52 : decode cX11_turns 52 = .ok (.aload_n 0, 1) := by decide +kernel
theorem dX11_turns_53 : decode cX11_turns 53 = .ok (.aload_n 0, 1) := by decide +kernel
theorem dX11_turns_54 : decode cX11_turns 54 = .ok (.getfield 44, 3) := by decide +kernel
theorem dX11_turns_57 : decode cX11_turns 57 = .ok (.iconst 0, 1) := by decide +kernel
theorem dX11_turns_58 : decode cX11_turns 58 = .ok (.iaload, 1) := by decide +kernel
theorem dX11_turns_59 : decode cX11_turns 59 = .ok (.putfield 339, 3) := by decide +kernel
theorem dX11_turns_62 : decode cX11_turns 62 = .ok (.return_, 1) := by decide +kernel
theorem dX11_laysTurn_0 : decode cX11_laysTurn 0 = .ok (.aload_n 0, 1) := by decide +kernel
theorem dX11_laysTurn_1 : decode cX11_laysTurn 1 = .ok (.getfield 44, 3) := by decide +kernel
theorem dX11_laysTurn_4 : decode cX11_laysTurn 4 = .ok (.iload_n 1, 1) := by decide +kernel
theorem dX11_laysTurn_5 : decode cX11_laysTurn 5 = .ok (.iconst (-1), 1) := by decide +kernel
theorem dX11_laysTurn_6 : decode cX11_laysTurn 6 = .ok (.iastore, 1) := by decide +kernel
theorem dX11_laysTurn_7 : decode cX11_laysTurn 7 = .ok (.aload_n 0, 1) := by decide +kernel
theorem dX11_laysTurn_8 : decode cX11_laysTurn 8 = .ok (.getfield 47, 3) := by decide +kernel
theorem dX11_laysTurn_11 : decode cX11_laysTurn 11 = .ok (.iload_n 1, 1) := by decide +kernel
theorem dX11_laysTurn_12 : decode cX11_laysTurn 12 = .ok (.ldc 221, 2) := by decide +kernel
theorem dX11_laysTurn_14 : decode cX11_laysTurn 14 = .ok (.iastore, 1) := by decide +kernel
theorem dX11_laysTurn_15 : decode cX11_laysTurn 15 = .ok (.return_, 1) := by decide +kernel
theorem dX11_tussleOf_0 : decode cX11_tussleOf 0 = .ok (.iconst 0, 1) := by decide +kernel
theorem dX11_tussleOf_1 : decode cX11_tussleOf 1 = .ok (.istore_n 2, 1) := by decide +kernel
theorem dX11_tussleOf_2 : decode cX11_tussleOf 2 = .ok (.aload_n 0, 1) := by decide +kernel
theorem dX11_tussleOf_3 : decode cX11_tussleOf 3 = .ok (.getfield 38, 3) := by decide +kernel
theorem dX11_tussleOf_6 : decode cX11_tussleOf 6 = .ok (.iconst 0, 1) := by decide +kernel
theorem dX11_tussleOf_7 : decode cX11_tussleOf 7 = .ok (.iconst 0, 1) := by decide +kernel
theorem dX11_tussleOf_8 : decode cX11_tussleOf 8 = .ok (.iastore, 1) := by decide +kernel
theorem dX11_tussleOf_9 : decode cX11_tussleOf 9 = .ok (.aload_n 0, 1) := by decide +kernel
theorem dX11_tussleOf_10 : decode cX11_tussleOf 10 = .ok (.getfield 41, 3) := by decide +kernel
theorem dX11_tussleOf_13 : decode cX11_tussleOf 13 = .ok (.iconst 0, 1) := by decide +kernel
theorem dX11_tussleOf_14 : decode cX11_tussleOf 14 = .ok (.iconst 0, 1) := by decide +kernel
theorem dX11_tussleOf_15 : decode cX11_tussleOf 15 = .ok (.iastore, 1) := by decide +kernel
theorem dX11_tussleOf_16 : decode cX11_tussleOf 16 = .ok (.aload_n 0, 1) := by decide +kernel
theorem dX11_tussleOf_17 : decode cX11_tussleOf 17 = .ok (.iconst 0, 1) := by decide +kernel
theorem dX11_tussleOf_18 : decode cX11_tussleOf 18 = .ok (.invokevirtual 342, 3) := by decide +kernel
theorem dX11_tussleOf_21 : decode cX11_tussleOf 21 = .ok (.iload_n 2, 1) := by decide +kernel
theorem dX11_tussleOf_22 : decode cX11_tussleOf 22 = .ok (.ifCond .lt 196, 3) := by decide +kernel
theorem dX11_tussleOf_25 : decode cX11_tussleOf 25 = .ok (.iload_n 2, 1) := by decide +kernel
theorem dX11_tussleOf_26 : decode cX11_tussleOf 26 = .ok (.iconst 2, 1) := by decide +kernel
theorem dX11_tussleOf_27 : decode cX11_tussleOf 27 = .ok (.irem, 1) := by decide +kernel
theorem dX11_tussleOf_28 : decode cX11_tussleOf 28 = .ok (.ifCond .ne 8, 3) := by decide +kernel
theorem dX11_tussleOf_31 : decode cX11_tussleOf 31 = .ok (.bipush 8, 2) := by decide +kernel
theorem dX11_tussleOf_33 : decode cX11_tussleOf 33 = .ok (.goto 5, 3) := by decide +kernel
theorem dX11_tussleOf_36 : decode cX11_tussleOf 36 = .ok (.bipush 6, 2) := by decide +kernel
theorem dX11_tussleOf_38 : decode cX11_tussleOf 38 = .ok (.istore_n 3, 1) := by decide +kernel
theorem dX11_tussleOf_39 : decode cX11_tussleOf 39 = .ok (.iload_n 2, 1) := by decide +kernel
theorem dX11_tussleOf_40 : decode cX11_tussleOf 40 = .ok (.iload_n 1, 1) := by decide +kernel
theorem dX11_tussleOf_41 : decode cX11_tussleOf 41 = .ok (.if_icmp .ne 8, 3) := by decide +kernel
theorem dX11_tussleOf_44 : decode cX11_tussleOf 44 = .ok (.bipush 9, 2) := by decide +kernel
theorem dX11_tussleOf_46 : decode cX11_tussleOf 46 = .ok (.goto 11, 3) := by decide +kernel
theorem dX11_tussleOf_49 : decode cX11_tussleOf 49 = .ok (.aload_n 0, 1) := by decide +kernel
theorem dX11_tussleOf_50 : decode cX11_tussleOf 50 = .ok (.getfield 44, 3) := by decide +kernel
theorem dX11_tussleOf_53 : decode cX11_tussleOf 53 = .ok (.iload_n 2, 1) := by decide +kernel
theorem dX11_tussleOf_54 : decode cX11_tussleOf 54 = .ok (.iaload, 1) := by decide +kernel
theorem dX11_tussleOf_55 : decode cX11_tussleOf 55 = .ok (.iconst 1, 1) := by decide +kernel
theorem dX11_tussleOf_56 : decode cX11_tussleOf 56 = .ok (.iadd, 1) := by decide +kernel
theorem dX11_tussleOf_57 : decode cX11_tussleOf 57 = .ok (.istore 4, 2) := by decide +kernel
theorem dX11_tussleOf_59 : decode cX11_tussleOf 59 = .ok (.iload 4, 2) := by decide +kernel
theorem dX11_tussleOf_61 : decode cX11_tussleOf 61 = .ok (.iload_n 3, 1) := by decide +kernel
theorem dX11_tussleOf_62 : decode cX11_tussleOf 62 = .ok (.if_icmp .ge 19, 3) := by decide +kernel
theorem dX11_tussleOf_65 : decode cX11_tussleOf 65 = .ok (.aload_n 0, 1) := by decide +kernel
theorem dX11_tussleOf_66 : decode cX11_tussleOf 66 = .ok (.iload_n 2, 1) := by decide +kernel
theorem dX11_tussleOf_67 : decode cX11_tussleOf 67 = .ok (.iload 4, 2) := by decide +kernel
theorem dX11_tussleOf_69 : decode cX11_tussleOf 69 = .ok (.invokevirtual 345, 3) := by decide +kernel
theorem dX11_tussleOf_72 : decode cX11_tussleOf 72 = .ok (.ifCond .ne 9, 3) := by decide +kernel
theorem dX11_tussleOf_75 : decode cX11_tussleOf 75 = .ok (.iinc 4 1, 3) := by decide +kernel
theorem dX11_tussleOf_78 : decode cX11_tussleOf 78 = .ok (.goto (-19), 3) := by decide +kernel
theorem dX11_tussleOf_81 : decode cX11_tussleOf 81 = .ok (.iload 4, 2) := by decide +kernel
theorem dX11_tussleOf_83 : decode cX11_tussleOf 83 = .ok (.iload_n 3, 1) := by decide +kernel
theorem dX11_tussleOf_84 : decode cX11_tussleOf 84 = .ok (.if_icmp .le 42, 3) := by decide +kernel
theorem dX11_tussleOf_87 : decode cX11_tussleOf 87 = .ok (.iload_n 2, 1) := by decide +kernel
theorem dX11_tussleOf_88 : decode cX11_tussleOf 88 = .ok (.iload_n 1, 1) := by decide +kernel
theorem dX11_tussleOf_89 : decode cX11_tussleOf 89 = .ok (.if_icmp .ne 14, 3) := by decide +kernel
theorem dX11_tussleOf_92 : decode cX11_tussleOf 92 = .ok (.aload_n 0, 1) := by decide +kernel
theorem dX11_tussleOf_93 : decode cX11_tussleOf 93 = .ok (.getfield 47, 3) := by decide +kernel
theorem dX11_tussleOf_96 : decode cX11_tussleOf 96 = .ok (.iload_n 2, 1) := by decide +kernel
theorem dX11_tussleOf_97 : decode cX11_tussleOf 97 = .ok (.aload_n 0, 1) := by decide +kernel
theorem dX11_tussleOf_98 : decode cX11_tussleOf 98 = .ok (.iload_n 2, 1) := by decide +kernel
theorem dX11_tussleOf_99 : decode cX11_tussleOf 99 = .ok (.invokevirtual 348, 3) := by decide +kernel
theorem dX11_tussleOf_102 : decode cX11_tussleOf 102 = .ok (.iastore, 1) := by decide +kernel
theorem dX11_tussleOf_103 : decode cX11_tussleOf 103 = .ok (.iinc 2 (-1), 3) := by decide +kernel
theorem dX11_tussleOf_106 : decode cX11_tussleOf 106 = .ok (.iload_n 2, 1) := by decide +kernel
theorem dX11_tussleOf_107 : decode cX11_tussleOf 107 = .ok (.ifCond .lt (-86), 3) := by decide +kernel
theorem dX11_tussleOf_110 : decode cX11_tussleOf 110 = .ok (.aload_n 0, 1) := by decide +kernel
theorem dX11_tussleOf_111 : decode cX11_tussleOf 111 = .ok (.iload_n 2, 1) := by decide +kernel
theorem dX11_tussleOf_112 : decode cX11_tussleOf 112 = .ok (.aload_n 0, 1) := by decide +kernel
theorem dX11_tussleOf_113 : decode cX11_tussleOf 113 = .ok (.getfield 47, 3) := by decide +kernel
theorem dX11_tussleOf_116 : decode cX11_tussleOf 116 = .ok (.iload_n 2, 1) := by decide +kernel
theorem dX11_tussleOf_117 : decode cX11_tussleOf 117 = .ok (.iconst 1, 1) := by decide +kernel
theorem dX11_tussleOf_118 : decode cX11_tussleOf 118 = .ok (.iadd, 1) := by decide +kernel
theorem dX11_tussleOf_119 : decode cX11_tussleOf 119 = .ok (.iaload, 1) := by decide +kernel
theorem dX11_tussleOf_120 : decode cX11_tussleOf 120 = .ok (.invokevirtual 351, 3) := by decide +kernel
theorem dX11_tussleOf_123 : decode cX11_tussleOf 123 = .ok (.goto (-102), 3) := by decide +kernel
theorem dX11_tussleOf_126 : decode cX11_tussleOf 126 = .ok (.aload_n 0, 1) := by decide +kernel
theorem dX11_tussleOf_127 : decode cX11_tussleOf 127 = .ok (.getfield 44, 3) := by decide +kernel
theorem dX11_tussleOf_130 : decode cX11_tussleOf 130 = .ok (.iload_n 2, 1) := by decide +kernel
theorem dX11_tussleOf_131 : decode cX11_tussleOf 131 = .ok (.iload 4, 2) := by decide +kernel
theorem dX11_tussleOf_133 : decode cX11_tussleOf 133 = .ok (.iastore, 1) := by decide +kernel
theorem dX11_tussleOf_134 : decode cX11_tussleOf 134 = .ok (.aload_n 0, 1) := by decide +kernel
theorem dX11_tussleOf_135 : decode cX11_tussleOf 135 = .ok (.getfield 38, 3) := by decide +kernel
theorem dX11_tussleOf_138 : decode cX11_tussleOf 138 = .ok (.iload_n 2, 1) := by decide +kernel
theorem dX11_tussleOf_139 : decode cX11_tussleOf 139 = .ok (.iconst 1, 1) := by decide +kernel
theorem dX11_tussleOf_140 : decode cX11_tussleOf 140 = .ok (.iadd, 1) := by decide +kernel
theorem dX11_tussleOf_141 : decode cX11_tussleOf 141 = .ok (.aload_n 0, 1) := by decide +kernel
theorem dX11_tussleOf_142 : decode cX11_tussleOf 142 = .ok (.getfield 38, 3) := by decide +kernel
theorem dX11_tussleOf_145 : decode cX11_tussleOf 145 = .ok (.iload_n 2, 1) := by decide +kernel
theorem dX11_tussleOf_146 : decode cX11_tussleOf 146 = .ok (.iaload, 1) := by decide +kernel
theorem dX11_tussleOf_147 : decode cX11_tussleOf 147 = .ok (.iload_n 2, 1) := by decide +kernel
theorem dX11_tussleOf_148 : decode cX11_tussleOf 148 = .ok (.iconst 2, 1) := by decide +kernel
theorem dX11_tussleOf_149 : decode cX11_tussleOf 149 = .ok (.irem, 1) := by decide +kernel
theorem dX11_tussleOf_150 : decode cX11_tussleOf 150 = .ok (.ifCond .ne 17, 3) := by decide +kernel
theorem dX11_tussleOf_153 : decode cX11_tussleOf 153 = .ok (.iload 4, 2) := by decide +kernel
theorem dX11_tussleOf_155 : decode cX11_tussleOf 155 = .ok (.bipush 8, 2) := by decide +kernel
theorem dX11_tussleOf_157 : decode cX11_tussleOf 157 = .ok (.if_icmp .ge 10, 3) := by decide +kernel
theorem dX11_tussleOf_160 : decode cX11_tussleOf 160 = .ok (.iconst 1, 1) := by decide +kernel
theorem dX11_tussleOf_161 : decode cX11_tussleOf 161 = .ok (.iload 4, 2) := by decide +kernel
theorem dX11_tussleOf_163 : decode cX11_tussleOf 163 = .ok (.ishl, 1) := by decide +kernel
theorem dX11_tussleOf_164 : decode cX11_tussleOf 164 = .ok (.goto 4, 3) := by decide +kernel
theorem dX11_tussleOf_167 : decode cX11_tussleOf 167 = .ok (.iconst 0, 1) := by decide +kernel
theorem dX11_tussleOf_168 : decode cX11_tussleOf 168 = .ok (.ior, 1) := by decide +kernel
theorem dX11_tussleOf_169 : decode cX11_tussleOf 169 = .ok (.iastore, 1) := by decide +kernel
theorem dX11_tussleOf_170 : decode cX11_tussleOf 170 = .ok (.aload_n 0, 1) := by decide +kernel
theorem dX11_tussleOf_171 : decode cX11_tussleOf 171 = .ok (.getfield 41, 3) := by decide +kernel
theorem dX11_tussleOf_174 : decode cX11_tussleOf 174 = .ok (.iload_n 2, 1) := by decide +kernel
theorem dX11_tussleOf_175 : decode cX11_tussleOf 175 = .ok (.iconst 1, 1) := by decide +kernel
theorem dX11_tussleOf_176 : decode cX11_tussleOf 176 = .ok (.iadd, 1) := by decide +kernel
theorem dX11_tussleOf_177 : decode cX11_tussleOf 177 = .ok (.aload_n 0, 1) := by decide +kernel
theorem dX11_tussleOf_178 : decode cX11_tussleOf 178 = .ok (.getfield 41, 3) := by decide +kernel
theorem dX11_tussleOf_181 : decode cX11_tussleOf 181 = .ok (.iload_n 2, 1) := by decide +kernel
theorem dX11_tussleOf_182 : decode cX11_tussleOf 182 = .ok (.iaload, 1) := by decide +kernel
theorem dX11_tussleOf_183 : decode cX11_tussleOf 183 = .ok (.iload_n 2, 1) := by decide +kernel
theorem dX11_tussleOf_184 : decode cX11_tussleOf 184 = .ok (.iconst 2, 1) := by decide +kernel
theorem dX11_tussleOf_185 : decode cX11_tussleOf 185 = .ok (.irem, 1) := by decide +kernel
theorem dX11_tussleOf_186 : decode cX11_tussleOf 186 = .ok (.iconst 1, 1) := by decide +kernel
theorem dX11_tussleOf_187 : decode cX11_tussleOf 187 = .ok (.if_icmp .ne 17, 3) := by decide +kernel
theorem dX11_tussleOf_190 : decode cX11_tussleOf 190 = .ok (.iload 4, 2) := by decide +kernel
theorem dX11_tussleOf_192 : decode cX11_tussleOf 192 = .ok (.bipush 6, 2) := by decide +kernel
theorem dX11_tussleOf_194 : decode cX11_tussleOf 194 = .ok (.if_icmp .ge 10, 3) := by decide +kernel
theorem dX11_tussleOf_197 : decode cX11_tussleOf 197 = .ok (.iconst 1, 1) := by decide +kernel
theorem dX11_tussleOf_198 : decode cX11_tussleOf 198 = .ok (.iload 4, 2) := by decide +kernel
theorem dX11_tussleOf_200 : decode cX11_tussleOf 200 = .ok (.ishl, 1) := by decide +kernel
theorem dX11_tussleOf_201 : decode cX11_tussleOf 201 = .ok (.goto 4, 3) := by decide +kernel
theorem dX11_tussleOf_204 : decode cX11_tussleOf 204 = .ok (.iconst 0, 1) := by decide +kernel
theorem dX11_tussleOf_205 : decode cX11_tussleOf 205 = .ok (.ior, 1) := by decide +kernel
theorem dX11_tussleOf_206 : decode cX11_tussleOf 206 = .ok (.iastore, 1) := by decide +kernel
theorem dX11_tussleOf_207 : decode cX11_tussleOf 207 = .ok (.iinc 2 1, 3) := by decide +kernel
theorem dX11_tussleOf_210 : decode cX11_tussleOf 210 = .ok (.aload_n 0, 1) := by decide +kernel
theorem dX11_tussleOf_211 : decode cX11_tussleOf 211 = .ok (.iload_n 2, 1) := by decide +kernel
theorem dX11_tussleOf_212 : decode cX11_tussleOf 212 = .ok (.invokevirtual 342, 3) := by decide +kernel
theorem dX11_tussleOf_215 : decode cX11_tussleOf 215 = .ok (.goto (-194), 3) := by decide +kernel
theorem dX11_tussleOf_218 : decode cX11_tussleOf 218 = .ok (.aload_n 0, 1) := by decide +kernel
theorem dX11_tussleOf_219 : decode cX11_tussleOf 219 = .ok (.getfield 47, 3) := by decide +kernel
theorem dX11_tussleOf_222 : decode cX11_tussleOf 222 = .ok (.iconst 0, 1) := by decide +kernel
theorem dX11_tussleOf_223 : decode cX11_tussleOf 223 = .ok (.iaload, 1) := by decide +kernel
theorem dX11_tussleOf_224 : decode cX11_tussleOf 224 = .ok (.ireturn, 1) := by decide +kernel
theorem dX11_tussle_0 : decode cX11_tussle 0 = .ok (.aload_n 0, 1) := by decide +kernel
theorem dX11_tussle_1 : decode cX11_tussle 1 = .ok (.iload_n 1, 1) := by decide +kernel
theorem dX11_tussle_2 : decode cX11_tussle 2 = .ok (.invokevirtual 197, 3) := by decide +kernel
theorem dX11_tussle_5 : decode cX11_tussle 5 = .ok (.ifCond .eq 12, 3) := by decide +kernel
theorem dX11_tussle_8 : decode cX11_tussle 8 = .ok (.iload_n 2, 1) := by decide +kernel
theorem dX11_tussle_9 : decode cX11_tussle 9 = .ok (.iconst 0, 1) := by decide +kernel
theorem dX11_tussle_10 : decode cX11_tussle 10 = .ok (.iconst 4, 1) := by decide +kernel
theorem dX11_tussle_11 : decode cX11_tussle 11 = .ok (.invokestatic 123, 3) := by decide +kernel
theorem dX11_tussle_14 : decode cX11_tussle 14 = .ok (.ifCond .ne 7, 3) := by decide +kernel
theorem dX11_tussle_17 : decode cX11_tussle 17 = .ok (.sipush (-999), 3) := by decide +kernel
theorem dX11_tussle_20 : decode cX11_tussle 20 = .ok (.ireturn, 1) := by decide +kernel
theorem dX11_tussle_21 : decode cX11_tussle 21 = .ok (.aload_n 0, 1) := by decide +kernel
theorem dX11_tussle_22 : decode cX11_tussle 22 = .ok (.iconst (-1), 1) := by decide +kernel
theorem dX11_tussle_23 : decode cX11_tussle 23 = .ok (.putfield 339, 3) := by decide +kernel
theorem dX11_tussle_26 : decode cX11_tussle 26 = .ok (.aload_n 0, 1) := by decide +kernel
theorem dX11_tussle_27 : decode cX11_tussle 27 = .ok (.iload_n 2, 1) := by decide +kernel
theorem dX11_tussle_28 : decode cX11_tussle 28 = .ok (.invokevirtual 354, 3) := by decide +kernel
theorem dX11_tussle_31 : decode cX11_tussle 31 = .ok (.istore 4, 2) := by decide +kernel
theorem dX11_tussle_33 : decode cX11_tussle 33 = .ok (.iload_n 3, 1) := by decide +kernel
theorem dX11_tussle_34 : decode cX11_tussle 34 = .ok (.ifCond .eq 10, 3) := by decide +kernel
theorem dX11_tussle_37 : decode cX11_tussle 37 = .ok (.aload_n 0, 1) := by decide +kernel
theorem dX11_tussle_38 : decode cX11_tussle 38 = .ok (.getfield 339, 3) := by decide +kernel
theorem dX11_tussle_41 : decode cX11_tussle 41 = .ok (.goto 5, 3) := by decide +kernel
theorem dX11_tussle_44 : decode cX11_tussle 44 = .ok (.iload 4, 2) := by decide +kernel
theorem dX11_tussle_46 : decode cX11_tussle 46 = .ok (.ireturn, 1) := by decide +kernel
theorem dX11_mayBe_0 : decode cX11_mayBe 0 = .ok (.aload_n 0, 1) := by decide +kernel
theorem dX11_mayBe_1 : decode cX11_mayBe 1 = .ok (.iload_n 1, 1) := by decide +kernel
theorem dX11_mayBe_2 : decode cX11_mayBe 2 = .ok (.invokevirtual 357, 3) := by decide +kernel
theorem dX11_mayBe_5 : decode cX11_mayBe 5 = .ok (.ifCond .eq 15, 3) := by decide +kernel
theorem dX11_mayBe_8 : decode cX11_mayBe 8 = .ok (.iload_n 2, 1) := by decide +kernel
theorem dX11_mayBe_9 : decode cX11_mayBe 9 = .ok (.ifCond .le 7, 3) := by decide +kernel
theorem dX11_mayBe_12 : decode cX11_mayBe 12 = .ok (.iconst 1, 1) := by decide +kernel
theorem dX11_mayBe_13 : decode cX11_mayBe 13 = .ok (.goto 21, 3) := by decide +kernel
theorem dX11_mayBe_16 : decode cX11_mayBe 16 = .ok (.iconst 0, 1) := by decide +kernel
theorem dX11_mayBe_17 : decode cX11_mayBe 17 = .ok (.goto 17, 3) := by decide +kernel
theorem dX11_mayBe_20 : decode cX11_mayBe 20 = .ok (.iload_n 2, 1) := by decide +kernel
theorem dX11_mayBe_21 : decode cX11_mayBe 21 = .ok (.aload_n 0, 1) := by decide +kernel
theorem dX11_mayBe_22 : decode cX11_mayBe 22 = .ok (.iload_n 1, 1) := by decide +kernel
theorem dX11_mayBe_23 : decode cX11_mayBe 23 = .ok (.invokevirtual 194, 3) := by decide +kernel
theorem dX11_mayBe_26 : decode cX11_mayBe 26 = .ok (.if_icmp .ne 7, 3) := by decide +kernel
theorem dX11_mayBe_29 : decode cX11_mayBe 29 = .ok (.iconst 1, 1) := by decide +kernel
theorem dX11_mayBe_30 : decode cX11_mayBe 30 = .ok (.goto 4, 3) := by decide +kernel
theorem dX11_mayBe_33 : decode cX11_mayBe 33 = .ok (.iconst 0, 1) := by decide +kernel
theorem dX11_mayBe_34 : decode cX11_mayBe 34 = .ok (.ireturn, 1) := by decide +kernel
theorem dX11_isNear_0 : decode cX11_isNear 0 = .ok (.iload_n 1, 1) := by decide +kernel
theorem dX11_isNear_1 : decode cX11_isNear 1 = .ok (.ifCond .eq 35, 3) := by decide +kernel
theorem dX11_isNear_4 : decode cX11_isNear 4 = .ok (.iload_n 2, 1) := by decide +kernel
theorem dX11_isNear_5 : decode cX11_isNear 5 = .ok (.ifCond .eq 31, 3) := by decide +kernel
theorem dX11_isNear_8 : decode cX11_isNear 8 = .ok (.iload_n 1, 1) := by decide +kernel
theorem dX11_isNear_9 : decode cX11_isNear 9 = .ok (.iload_n 2, 1) := by decide +kernel
theorem dX11_isNear_10 : decode cX11_isNear 10 = .ok (.if_icmp .le 9, 3) := by decide +kernel
theorem dX11_isNear_13 : decode cX11_isNear 13 = .ok (.iload_n 1, 1) := by decide +kernel
theorem dX11_isNear_14 : decode cX11_isNear 14 = .ok (.iload_n 2, 1) := by decide +kernel
theorem dX11_isNear_15 : decode cX11_isNear 15 = .ok (.isub, 1) := by decide +kernel
theorem dX11_isNear_16 : decode cX11_isNear 16 = .ok (.goto 6, 3) := by decide +kernel
theorem dX11_isNear_19 : decode cX11_isNear 19 = .ok (.iload_n 2, 1) := by decide +kernel
theorem dX11_isNear_20 : decode cX11_isNear 20 = .ok (.iload_n 1, 1) := by decide +kernel
theorem dX11_isNear_21 : decode cX11_isNear 21 = .ok (.isub, 1) := by decide +kernel
theorem dX11_isNear_22 : decode cX11_isNear 22 = .ok (.aload_n 0, 1) := by decide +kernel
theorem dX11_isNear_23 : decode cX11_isNear 23 = .ok (.getfield 7, 3) := by decide +kernel
theorem dX11_isNear_26 : decode cX11_isNear 26 = .ok (.aload_n 0, 1) := by decide +kernel
theorem dX11_isNear_27 : decode cX11_isNear 27 = .ok (.getfield 182, 3) := by decide +kernel
theorem dX11_isNear_30 : decode cX11_isNear 30 = .ok (.iconst 3, 1) := by decide +kernel
theorem dX11_isNear_31 : decode cX11_isNear 31 = .ok (.iadd, 1) := by decide +kernel
theorem dX11_isNear_32 : decode cX11_isNear 32 = .ok (.iaload, 1) := by decide +kernel
theorem dX11_isNear_33 : decode cX11_isNear 33 = .ok (.if_icmp .gt 7, 3) := by decide +kernel
theorem dX11_isNear_36 : decode cX11_isNear 36 = .ok (.iconst 1, 1) := by decide +kernel
theorem dX11_isNear_37 : decode cX11_isNear 37 = .ok (.goto 4, 3) := by decide +kernel
theorem dX11_isNear_40 : decode cX11_isNear 40 = .ok (.iconst 0, 1) := by decide +kernel
theorem dX11_isNear_41 : decode cX11_isNear 41 = .ok (.ireturn, 1) := by decide +kernel
theorem dX11_laysTunes_0 : decode cX11_laysTunes 0 = .ok (.aload_n 0, 1) := by decide +kernel
theorem dX11_laysTunes_1 : decode cX11_laysTunes 1 = .ok (.getfield 188, 3) := by decide +kernel
theorem dX11_laysTunes_4 : decode cX11_laysTunes 4 = .ok (.iconst 1, 1) := by decide +kernel
theorem dX11_laysTunes_5 : decode cX11_laysTunes 5 = .ok (.isub, 1) := by decide +kernel
theorem dX11_laysTunes_6 : decode cX11_laysTunes 6 = .ok (.istore_n 1, 1) := by decide +kernel
theorem dX11_laysTunes_7 : decode cX11_laysTunes 7 = .ok (.iload_n 1, 1) := by decide +kernel
theorem dX11_laysTunes_8 : decode cX11_laysTunes 8 = .ok (.ifCond .lt 122, 3) := by decide +kernel
theorem dX11_laysTunes_11 : decode cX11_laysTunes 11 = .ok (.iconst 0, 1) := by decide +kernel
theorem dX11_laysTunes_12 : decode cX11_laysTunes 12 = .ok (.istore_n 2, 1) := by decide +kernel
theorem dX11_laysTunes_13 : decode cX11_laysTunes 13 = .ok (.iload_n 2, 1) := by decide +kernel
theorem dX11_laysTunes_14 : decode cX11_laysTunes 14 = .ok (.bipush 10, 2) := by decide +kernel
theorem dX11_laysTunes_16 : decode cX11_laysTunes 16 = .ok (.if_icmp .ge 108, 3) := by decide +kernel
theorem dX11_laysTunes_19 : decode cX11_laysTunes 19 = .ok (.iload_n 1, 1) := by decide +kernel
theorem dX11_laysTunes_20 : decode cX11_laysTunes 20 = .ok (.aload_n 0, 1) := by decide +kernel
theorem dX11_laysTunes_21 : decode cX11_laysTunes 21 = .ok (.getfield 188, 3) := by decide +kernel
theorem dX11_laysTunes_24 : decode cX11_laysTunes 24 = .ok (.iconst 1, 1) := by decide +kernel
theorem dX11_laysTunes_25 : decode cX11_laysTunes 25 = .ok (.isub, 1) := by decide +kernel
theorem dX11_laysTunes_26 : decode cX11_laysTunes 26 = .ok (.if_icmp .ne 7, 3) := by decide +kernel
theorem dX11_laysTunes_29 : decode cX11_laysTunes 29 = .ok (.iconst 1, 1) := by decide +kernel
theorem dX11_laysTunes_30 : decode cX11_laysTunes 30 = .ok (.goto 4, 3) := by decide +kernel
theorem dX11_laysTunes_33 : decode cX11_laysTunes 33 = .ok (.iconst 0, 1) := by decide +kernel
theorem dX11_laysTunes_34 : decode cX11_laysTunes 34 = .ok (.istore_n 3, 1) := by decide +kernel
theorem dX11_laysTunes_35 : decode cX11_laysTunes 35 = .ok (.iconst 0, 1) := by decide +kernel
theorem dX11_laysTunes_36 : decode cX11_laysTunes 36 = .ok (.istore 4, 2) := by decide +kernel
theorem dX11_laysTunes_38 : decode cX11_laysTunes 38 = .ok (.iload 4, 2) := by decide +kernel
theorem dX11_laysTunes_40 : decode cX11_laysTunes 40 = .ok (.bipush 10, 2) := by decide +kernel
theorem dX11_laysTunes_42 : decode cX11_laysTunes 42 = .ok (.if_icmp .ge 51, 3) := by decide +kernel
theorem dX11_laysTunes_45 : decode cX11_laysTunes 45 = .ok (.iload_n 1, 1) := by decide +kernel
theorem dX11_laysTunes_46 : decode cX11_laysTunes 46 = .ok (.aload_n 0, 1) := by decide +kernel
theorem dX11_laysTunes_47 : decode cX11_laysTunes 47 = .ok (.getfield 188, 3) := by decide +kernel
theorem dX11_laysTunes_50 : decode cX11_laysTunes 50 = .ok (.iconst 1, 1) := by decide +kernel
theorem dX11_laysTunes_51 : decode cX11_laysTunes 51 = .ok (.isub, 1) := by decide +kernel
theorem dX11_laysTunes_52 : decode cX11_laysTunes 52 = .ok (.if_icmp .ge 41, 3) := by decide +kernel
theorem dX11_laysTunes_55 : decode cX11_laysTunes 55 = .ok (.iload_n 3, 1) := by decide +kernel
theorem dX11_laysTunes_56 : decode cX11_laysTunes 56 = .ok (.aload_n 0, 1) := by decide +kernel
theorem dX11_laysTunes_57 : decode cX11_laysTunes 57 = .ok (.iload_n 2, 1) := by decide +kernel
theorem dX11_laysTunes_58 : decode cX11_laysTunes 58 = .ok (.iload 4, 2) := by decide +kernel
theorem dX11_laysTunes_60 : decode cX11_laysTunes 60 = .ok (.invokevirtual 360, 3) := by decide +kernel
theorem dX11_laysTunes_63 : decode cX11_laysTunes 63 = .ok (.ifCond .eq 21, 3) := by decide +kernel
theorem dX11_laysTunes_66 : decode cX11_laysTunes 66 = .ok (.aload_n 0, 1) := by decide +kernel
theorem dX11_laysTunes_67 : decode cX11_laysTunes 67 = .ok (.getfield 50, 3) := by decide +kernel
theorem dX11_laysTunes_70 : decode cX11_laysTunes 70 = .ok (.bipush 10, 2) := by decide +kernel
theorem dX11_laysTunes_72 : decode cX11_laysTunes 72 = .ok (.iload_n 1, 1) := by decide +kernel
theorem dX11_laysTunes_73 : decode cX11_laysTunes 73 = .ok (.imul, 1) := by decide +kernel
theorem dX11_laysTunes_74 : decode cX11_laysTunes 74 = .ok (.bipush 10, 2) := by decide +kernel
theorem dX11_laysTunes_76 : decode cX11_laysTunes 76 = .ok (.iadd, 1) := by decide +kernel
theorem dX11_laysTunes_77 : decode cX11_laysTunes 77 = .ok (.iload 4, 2) := by decide +kernel
theorem dX11_laysTunes_79 : decode cX11_laysTunes 79 = .ok (.iadd, 1) := by decide +kernel
theorem dX11_laysTunes_80 : decode cX11_laysTunes 80 = .ok (.iaload, 1) := by decide +kernel
theorem dX11_laysTunes_81 : decode cX11_laysTunes 81 = .ok (.goto 4, 3) := by decide +kernel
theorem dX11_laysTunes_84 : decode cX11_laysTunes 84 = .ok (.iconst 0, 1) := by decide +kernel
theorem dX11_laysTunes_85 : decode cX11_laysTunes 85 = .ok (.iadd, 1) := by decide +kernel
theorem dX11_laysTunes_86 : decode cX11_laysTunes 86 = .ok (.istore_n 3, 1) := by decide +kernel
theorem dX11_laysTunes_87 : decode cX11_laysTunes 87 = .ok (.iinc 4 1, 3) := by decide +kernel
theorem dX11_laysTunes_90 : decode cX11_laysTunes 90 = .ok (.goto (-52), 3) := by decide +kernel
theorem dX11_laysTunes_93 : decode cX11_laysTunes 93 = .ok (.aload_n 0, 1) := by decide +kernel
theorem dX11_laysTunes_94 : decode cX11_laysTunes 94 = .ok (.getfield 50, 3) := by decide +kernel
theorem dX11_laysTunes_97 : decode cX11_laysTunes 97 = .ok (.bipush 10, 2) := by decide +kernel
theorem dX11_laysTunes_99 : decode cX11_laysTunes 99 = .ok (.iload_n 1, 1) := by decide +kernel
theorem dX11_laysTunes_100 : decode cX11_laysTunes 100 = .ok (.imul, 1) := by decide +kernel
theorem dX11_laysTunes_101 : decode cX11_laysTunes 101 = .ok (.iload_n 2, 1) := by decide +kernel
theorem dX11_laysTunes_102 : decode cX11_laysTunes 102 = .ok (.iadd, 1) := by decide +kernel
theorem dX11_laysTunes_103 : decode cX11_laysTunes 103 = .ok (.aload_n 0, 1) := by decide +kernel
theorem dX11_laysTunes_104 : decode cX11_laysTunes 104 = .ok (.iload_n 1, 1) := by decide +kernel
theorem dX11_laysTunes_105 : decode cX11_laysTunes 105 = .ok (.iload_n 2, 1) := by decide +kernel
theorem dX11_laysTunes_106 : decode cX11_laysTunes 106 = .ok (.invokevirtual 363, 3) := by decide +kernel
theorem dX11_laysTunes_109 : decode cX11_laysTunes 109 = .ok (.ifCond .eq 7, 3) := by decide +kernel
theorem dX11_laysTunes_112 : decode cX11_laysTunes 112 = .ok (.iload_n 3, 1) := by decide +kernel
theorem dX11_laysTunes_113 : decode cX11_laysTunes 113 = .ok (.goto 4, 3) := by decide +kernel
theorem dX11_laysTunes_116 : decode cX11_laysTunes 116 = .ok (.iconst 0, 1) := by decide +kernel
theorem dX11_laysTunes_117 : decode cX11_laysTunes 117 = .ok (.iastore, 1) := by decide +kernel
theorem dX11_laysTunes_118 : decode cX11_laysTunes 118 = .ok (.iinc 2 1, 3) := by decide +kernel
theorem dX11_laysTunes_121 : decode cX11_laysTunes 121 = .ok (.goto (-108), 3) := by decide +kernel
theorem dX11_laysTunes_124 : decode cX11_laysTunes 124 = .ok (.iinc 1 (-1), 3) := by decide +kernel
theorem dX11_laysTunes_127 : decode cX11_laysTunes 127 = .ok (.goto (-120), 3) := by decide +kernel
theorem dX11_laysTunes_130 : decode cX11_laysTunes 130 = .ok (.iconst 0, 1) := by decide +kernel
theorem dX11_laysTunes_131 : decode cX11_laysTunes 131 = .ok (.istore_n 1, 1) := by decide +kernel
theorem dX11_laysTunes_132 : decode cX11_laysTunes 132 = .ok (.iload_n 1, 1) := by decide +kernel
theorem dX11_laysTunes_133 : decode cX11_laysTunes 133 = .ok (.aload_n 0, 1) := by decide +kernel
theorem dX11_laysTunes_134 : decode cX11_laysTunes 134 = .ok (.getfield 188, 3) := by decide +kernel
theorem dX11_laysTunes_137 : decode cX11_laysTunes 137 = .ok (.if_icmp .ge 120, 3) := by decide +kernel
theorem dX11_laysTunes_140 : decode cX11_laysTunes 140 = .ok (.iconst 0, 1) := by decide +kernel
theorem dX11_laysTunes_141 : decode cX11_laysTunes 141 = .ok (.istore_n 2, 1) := by decide +kernel
theorem dX11_laysTunes_142 : decode cX11_laysTunes 142 = .ok (.iload_n 2, 1) := by decide +kernel
theorem dX11_laysTunes_143 : decode cX11_laysTunes 143 = .ok (.bipush 10, 2) := by decide +kernel
theorem dX11_laysTunes_145 : decode cX11_laysTunes 145 = .ok (.if_icmp .ge 106, 3) := by decide +kernel
theorem dX11_laysTunes_148 : decode cX11_laysTunes 148 = .ok (.iload_n 1, 1) := by decide +kernel
theorem dX11_laysTunes_149 : decode cX11_laysTunes 149 = .ok (.ifCond .ne 7, 3) := by decide +kernel
theorem dX11_laysTunes_152 : decode cX11_laysTunes 152 = .ok (.iconst 1, 1) := by decide +kernel
theorem dX11_laysTunes_153 : decode cX11_laysTunes 153 = .ok (.goto 4, 3) := by decide +kernel
theorem dX11_laysTunes_156 : decode cX11_laysTunes 156 = .ok (.iconst 0, 1) := by decide +kernel
theorem dX11_laysTunes_157 : decode cX11_laysTunes 157 = .ok (.istore_n 3, 1) := by decide +kernel
theorem dX11_laysTunes_158 : decode cX11_laysTunes 158 = .ok (.iconst 0, 1) := by decide +kernel
theorem dX11_laysTunes_159 : decode cX11_laysTunes 159 = .ok (.istore 4, 2) := by decide +kernel
theorem dX11_laysTunes_161 : decode cX11_laysTunes 161 = .ok (.iload 4, 2) := by decide +kernel
theorem dX11_laysTunes_163 : decode cX11_laysTunes 163 = .ok (.bipush 10, 2) := by decide +kernel
theorem dX11_laysTunes_165 : decode cX11_laysTunes 165 = .ok (.if_icmp .ge 51, 3) := by decide +kernel
theorem dX11_laysTunes_168 : decode cX11_laysTunes 168 = .ok (.iload_n 1, 1) := by decide +kernel
theorem dX11_laysTunes_169 : decode cX11_laysTunes 169 = .ok (.ifCond .le 47, 3) := by decide +kernel
theorem dX11_laysTunes_172 : decode cX11_laysTunes 172 = .ok (.iload_n 3, 1) := by decide +kernel
theorem dX11_laysTunes_173 : decode cX11_laysTunes 173 = .ok (.ifCond .ne 31, 3) := by decide +kernel
theorem dX11_laysTunes_176 : decode cX11_laysTunes 176 = .ok (.aload_n 0, 1) := by decide +kernel
theorem dX11_laysTunes_177 : decode cX11_laysTunes 177 = .ok (.getfield 53, 3) := by decide +kernel
theorem dX11_laysTunes_180 : decode cX11_laysTunes 180 = .ok (.bipush 10, 2) := by decide +kernel
theorem dX11_laysTunes_182 : decode cX11_laysTunes 182 = .ok (.iload_n 1, 1) := by decide +kernel
theorem dX11_laysTunes_183 : decode cX11_laysTunes 183 = .ok (.imul, 1) := by decide +kernel
theorem dX11_laysTunes_184 : decode cX11_laysTunes 184 = .ok (.bipush 10, 2) := by decide +kernel
theorem dX11_laysTunes_186 : decode cX11_laysTunes 186 = .ok (.isub, 1) := by decide +kernel
theorem dX11_laysTunes_187 : decode cX11_laysTunes 187 = .ok (.iload 4, 2) := by decide +kernel
theorem dX11_laysTunes_189 : decode cX11_laysTunes 189 = .ok (.iadd, 1) := by decide +kernel
theorem dX11_laysTunes_190 : decode cX11_laysTunes 190 = .ok (.baload, 1) := by decide +kernel
theorem dX11_laysTunes_191 : decode cX11_laysTunes 191 = .ok (.ifCond .eq 17, 3) := by decide +kernel
theorem dX11_laysTunes_194 : decode cX11_laysTunes 194 = .ok (.aload_n 0, 1) := by decide +kernel
theorem dX11_laysTunes_195 : decode cX11_laysTunes 195 = .ok (.iload 4, 2) := by decide +kernel
theorem dX11_laysTunes_197 : decode cX11_laysTunes 197 = .ok (.iload_n 2, 1) := by decide +kernel
theorem dX11_laysTunes_198 : decode cX11_laysTunes 198 = .ok (.invokevirtual 360, 3) := by decide +kernel
theorem dX11_laysTunes_201 : decode cX11_laysTunes 201 = .ok (.ifCond .eq 7, 3) := by decide +kernel
theorem dX11_laysTunes_204 : decode cX11_laysTunes 204 = .ok (.iconst 1, 1) := by decide +kernel
theorem dX11_laysTunes_205 : decode cX11_laysTunes 205 = .ok (.goto 4, 3) := by decide +kernel
theorem dX11_laysTunes_208 : decode cX11_laysTunes 208 = .ok (.iconst 0, 1) := by decide +kernel
theorem dX11_laysTunes_209 : decode cX11_laysTunes 209 = .ok (.istore_n 3, 1) := by decide +kernel
theorem dX11_laysTunes_210 : decode cX11_laysTunes 210 = .ok (.iinc 4 1, 3) := by decide +kernel
theorem dX11_laysTunes_213 : decode cX11_laysTunes 213 = .ok (.goto (-52), 3) := by decide +kernel
theorem dX11_laysTunes_216 : decode cX11_laysTunes 216 = .ok (.aload_n 0, 1) := by decide +kernel
theorem dX11_laysTunes_217 : decode cX11_laysTunes 217 = .ok (.getfield 53, 3) := by decide +kernel
theorem dX11_laysTunes_220 : decode cX11_laysTunes 220 = .ok (.bipush 10, 2) := by decide +kernel
theorem dX11_laysTunes_222 : decode cX11_laysTunes 222 = .ok (.iload_n 1, 1) := by decide +kernel
theorem dX11_laysTunes_223 : decode cX11_laysTunes 223 = .ok (.imul, 1) := by decide +kernel
theorem dX11_laysTunes_224 : decode cX11_laysTunes 224 = .ok (.iload_n 2, 1) := by decide +kernel
theorem dX11_laysTunes_225 : decode cX11_laysTunes 225 = .ok (.iadd, 1) := by decide +kernel
theorem dX11_laysTunes_226 : decode cX11_laysTunes 226 = .ok (.iload_n 3, 1) := by decide +kernel
theorem dX11_laysTunes_227 : decode cX11_laysTunes 227 = .ok (.ifCond .eq 16, 3) := by decide +kernel
theorem dX11_laysTunes_230 : decode cX11_laysTunes 230 = .ok (.aload_n 0, 1) := by decide +kernel
theorem dX11_laysTunes_231 : decode cX11_laysTunes 231 = .ok (.iload_n 1, 1) := by decide +kernel
theorem dX11_laysTunes_232 : decode cX11_laysTunes 232 = .ok (.iload_n 2, 1) := by decide +kernel
theorem dX11_laysTunes_233 : decode cX11_laysTunes 233 = .ok (.invokevirtual 363, 3) := by decide +kernel
theorem dX11_laysTunes_236 : decode cX11_laysTunes 236 = .ok (.ifCond .eq 7, 3) := by decide +kernel
theorem dX11_laysTunes_239 : decode cX11_laysTunes 239 = .ok (.iconst 1, 1) := by decide +kernel
theorem dX11_laysTunes_240 : decode cX11_laysTunes 240 = .ok (.goto 4, 3) := by decide +kernel
theorem dX11_laysTunes_243 : decode cX11_laysTunes 243 = .ok (.iconst 0, 1) := by decide +kernel
theorem dX11_laysTunes_244 : decode cX11_laysTunes 244 = .ok (.bastore, 1) := by decide +kernel
theorem dX11_laysTunes_245 : decode cX11_laysTunes 245 = .ok (.iinc 2 1, 3) := by decide +kernel
theorem dX11_laysTunes_248 : decode cX11_laysTunes 248 = .ok (.goto (-106), 3) := by decide +kernel
theorem dX11_laysTunes_251 : decode cX11_laysTunes 251 = .ok (.iinc 1 1, 3) := by decide +kernel
theorem dX11_laysTunes_254 : decode cX11_laysTunes 254 = .ok (.goto (-122), 3) := by decide +kernel
theorem dX11_laysTunes_257 : decode cX11_laysTunes 257 = .ok (.return_, 1) := by decide +kernel
theorem dX11_walledBar_0 : decode cX11_walledBar 0 = .ok (.iconst 0, 1) := by decide +kernel
theorem dX11_walledBar_1 : decode cX11_walledBar 1 = .ok (.istore_n 2, 1) := by decide +kernel
theorem dX11_walledBar_2 : decode cX11_walledBar 2 = .ok (.iconst 0, 1) := by decide +kernel
theorem dX11_walledBar_3 : decode cX11_walledBar 3 = .ok (.istore_n 3, 1) := by decide +kernel
theorem dX11_walledBar_4 : decode cX11_walledBar 4 = .ok (.iload_n 3, 1) := by decide +kernel
theorem dX11_walledBar_5 : decode cX11_walledBar 5 = .ok (.aload_n 0, 1) := by decide +kernel
theorem dX11_walledBar_6 : decode cX11_walledBar 6 = .ok (.getfield 188, 3) := by decide +kernel
theorem dX11_walledBar_9 : decode cX11_walledBar 9 = .ok (.if_icmp .ge 30, 3) := by decide +kernel
theorem dX11_walledBar_12 : decode cX11_walledBar 12 = .ok (.aload_n 0, 1) := by decide +kernel
theorem dX11_walledBar_13 : decode cX11_walledBar 13 = .ok (.iload_n 3, 1) := by decide +kernel
theorem dX11_walledBar_14 : decode cX11_walledBar 14 = .ok (.invokevirtual 357, 3) := by decide +kernel
theorem dX11_walledBar_17 : decode cX11_walledBar 17 = .ok (.ifCond .ne 6, 3) := by decide +kernel
theorem dX11_walledBar_20 : decode cX11_walledBar 20 = .ok (.goto 13, 3) := by decide +kernel
theorem dX11_walledBar_23 : decode cX11_walledBar 23 = .ok (.iload_n 2, 1) := by decide +kernel
theorem dX11_walledBar_24 : decode cX11_walledBar 24 = .ok (.iload_n 1, 1) := by decide +kernel
theorem dX11_walledBar_25 : decode cX11_walledBar 25 = .ok (.if_icmp .ne 5, 3) := by decide +kernel
theorem dX11_walledBar_28 : decode cX11_walledBar 28 = .ok (.iload_n 3, 1) := by decide +kernel
theorem dX11_walledBar_29 : decode cX11_walledBar 29 = .ok (.ireturn, 1) := by decide +kernel
theorem dX11_walledBar_30 : decode cX11_walledBar 30 = .ok (.iinc 2 1, 3) := by decide +kernel
theorem dX11_walledBar_33 : decode cX11_walledBar 33 = .ok (.iinc 3 1, 3) := by decide +kernel
theorem dX11_walledBar_36 : decode cX11_walledBar 36 = .ok (.goto (-32), 3) := by decide +kernel
theorem dX11_walledBar_39 : decode cX11_walledBar 39 = .ok (.iconst (-1), 1) := by decide +kernel
theorem dX11_walledBar_40 : decode cX11_walledBar 40 = .ok (.ireturn, 1) := by decide +kernel
theorem dX11_tunesOf_0 : decode cX11_tunesOf 0 = .ok (.iconst 0, 1) := by decide +kernel
theorem dX11_tunesOf_1 : decode cX11_tunesOf 1 = .ok (.istore_n 1, 1) := by decide +kernel
theorem dX11_tunesOf_2 : decode cX11_tunesOf 2 = .ok (.iconst 0, 1) := by decide +kernel
theorem dX11_tunesOf_3 : decode cX11_tunesOf 3 = .ok (.istore_n 2, 1) := by decide +kernel
theorem dX11_tunesOf_4 : decode cX11_tunesOf 4 = .ok (.iload_n 2, 1) := by decide +kernel
theorem dX11_tunesOf_5 : decode cX11_tunesOf 5 = .ok (.bipush 10, 2) := by decide +kernel
theorem dX11_tunesOf_7 : decode cX11_tunesOf 7 = .ok (.if_icmp .ge 25, 3) := by decide +kernel
theorem dX11_tunesOf_10 : decode cX11_tunesOf 10 = .ok (.aload_n 0, 1) := by decide +kernel
theorem dX11_tunesOf_11 : decode cX11_tunesOf 11 = .ok (.getfield 188, 3) := by decide +kernel
theorem dX11_tunesOf_14 : decode cX11_tunesOf 14 = .ok (.ifCond .le 18, 3) := by decide +kernel
theorem dX11_tunesOf_17 : decode cX11_tunesOf 17 = .ok (.iload_n 1, 1) := by decide +kernel
theorem dX11_tunesOf_18 : decode cX11_tunesOf 18 = .ok (.aload_n 0, 1) := by decide +kernel
theorem dX11_tunesOf_19 : decode cX11_tunesOf 19 = .ok (.getfield 50, 3) := by decide +kernel
theorem dX11_tunesOf_22 : decode cX11_tunesOf 22 = .ok (.iload_n 2, 1) := by decide +kernel
theorem dX11_tunesOf_23 : decode cX11_tunesOf 23 = .ok (.iaload, 1) := by decide +kernel
theorem dX11_tunesOf_24 : decode cX11_tunesOf 24 = .ok (.iadd, 1) := by decide +kernel
theorem dX11_tunesOf_25 : decode cX11_tunesOf 25 = .ok (.istore_n 1, 1) := by decide +kernel
theorem dX11_tunesOf_26 : decode cX11_tunesOf 26 = .ok (.iinc 2 1, 3) := by decide +kernel
theorem dX11_tunesOf_29 : decode cX11_tunesOf 29 = .ok (.goto (-25), 3) := by decide +kernel
theorem dX11_tunesOf_32 : decode cX11_tunesOf 32 = .ok (.aload_n 0, 1) := by decide +kernel
theorem dX11_tunesOf_33 : decode cX11_tunesOf 33 = .ok (.getfield 188, 3) := by decide +kernel
theorem dX11_tunesOf_36 : decode cX11_tunesOf 36 = .ok (.ifCond .ne 7, 3) := by decide +kernel
theorem dX11_tunesOf_39 : decode cX11_tunesOf 39 = .ok (.iconst 1, 1) := by decide +kernel
theorem dX11_tunesOf_40 : decode cX11_tunesOf 40 = .ok (.goto 4, 3) := by decide +kernel
theorem dX11_tunesOf_43 : decode cX11_tunesOf 43 = .ok (.iload_n 1, 1) := by decide +kernel
theorem dX11_tunesOf_44 : decode cX11_tunesOf 44 = .ok (.ireturn, 1) := by decide +kernel
theorem dX11_firstTune_0 : decode cX11_firstTune 0 = .ok (.iconst 0, 1) := by decide +kernel
theorem dX11_firstTune_1 : decode cX11_firstTune 1 = .ok (.istore_n 2, 1) := by decide +kernel
theorem dX11_firstTune_2 : decode cX11_firstTune 2 = .ok (.iconst 0, 1) := by decide +kernel
theorem dX11_firstTune_3 : decode cX11_firstTune 3 = .ok (.istore_n 3, 1) := by decide +kernel
theorem dX11_firstTune_4 : decode cX11_firstTune 4 = .ok (.iload_n 3, 1) := by decide +kernel
theorem dX11_firstTune_5 : decode cX11_firstTune 5 = .ok (.iload_n 1, 1) := by decide +kernel
theorem dX11_firstTune_6 : decode cX11_firstTune 6 = .ok (.if_icmp .gt 46, 3) := by decide +kernel
theorem dX11_firstTune_9 : decode cX11_firstTune 9 = .ok (.iconst 0, 1) := by decide +kernel
theorem dX11_firstTune_10 : decode cX11_firstTune 10 = .ok (.istore 4, 2) := by decide +kernel
theorem dX11_firstTune_12 : decode cX11_firstTune 12 = .ok (.aload_n 0, 1) := by decide +kernel
theorem dX11_firstTune_13 : decode cX11_firstTune 13 = .ok (.getfield 50, 3) := by decide +kernel
theorem dX11_firstTune_16 : decode cX11_firstTune 16 = .ok (.bipush 10, 2) := by decide +kernel
theorem dX11_firstTune_18 : decode cX11_firstTune 18 = .ok (.iload_n 3, 1) := by decide +kernel
theorem dX11_firstTune_19 : decode cX11_firstTune 19 = .ok (.imul, 1) := by decide +kernel
theorem dX11_firstTune_20 : decode cX11_firstTune 20 = .ok (.iload 4, 2) := by decide +kernel
theorem dX11_firstTune_22 : decode cX11_firstTune 22 = .ok (.iadd, 1) := by decide +kernel
theorem dX11_firstTune_23 : decode cX11_firstTune 23 = .ok (.iaload, 1) := by decide +kernel
theorem dX11_firstTune_24 : decode cX11_firstTune 24 = .ok (.ifCond .eq 13, 3) := by decide +kernel
theorem dX11_firstTune_27 : decode cX11_firstTune 27 = .ok (.aload_n 0, 1) := by decide +kernel
theorem dX11_firstTune_28 : decode cX11_firstTune 28 = .ok (.iload_n 2, 1) := by decide +kernel
theorem dX11_firstTune_29 : decode cX11_firstTune 29 = .ok (.iload 4, 2) := by decide +kernel
theorem dX11_firstTune_31 : decode cX11_firstTune 31 = .ok (.invokevirtual 360, 3) := by decide +kernel
theorem dX11_firstTune_34 : decode cX11_firstTune 34 = .ok (.ifCond .ne 9, 3) := by decide +kernel
theorem dX11_firstTune_37 : decode cX11_firstTune 37 = .ok (.iinc 4 1, 3) := by decide +kernel
theorem dX11_firstTune_40 : decode cX11_firstTune 40 = .ok (.goto (-28), 3) := by decide +kernel
theorem dX11_firstTune_43 : decode cX11_firstTune 43 = .ok (.iload 4, 2) := by decide +kernel
theorem dX11_firstTune_45 : decode cX11_firstTune 45 = .ok (.istore_n 2, 1) := by decide +kernel
theorem dX11_firstTune_46 : decode cX11_firstTune 46 = .ok (.iinc 3 1, 3) := by decide +kernel
theorem dX11_firstTune_49 : decode cX11_firstTune 49 = .ok (.goto (-45), 3) := by decide +kernel
theorem dX11_firstTune_52 : decode cX11_firstTune 52 = .ok (.iload_n 2, 1) := by decide +kernel
theorem dX11_firstTune_53 : decode cX11_firstTune 53 = .ok (.ireturn, 1) := by decide +kernel
theorem dX11_sureTune_0 : decode cX11_sureTune 0 = .ok (.iconst (-1), 1) := by decide +kernel
theorem dX11_sureTune_1 : decode cX11_sureTune 1 = .ok (.istore_n 2, 1) := by decide +kernel
theorem dX11_sureTune_2 : decode cX11_sureTune 2 = .ok (.iconst 1, 1) := by decide +kernel
theorem dX11_sureTune_3 : decode cX11_sureTune 3 = .ok (.istore_n 3, 1) := by decide +kernel
theorem dX11_sureTune_4 : decode cX11_sureTune 4 = .ok (.iload_n 3, 1) := by decide +kernel
theorem dX11_sureTune_5 : decode cX11_sureTune 5 = .ok (.bipush 10, 2) := by decide +kernel
theorem dX11_sureTune_7 : decode cX11_sureTune 7 = .ok (.if_icmp .ge 49, 3) := by decide +kernel
theorem dX11_sureTune_10 : decode cX11_sureTune 10 = .ok (.aload_n 0, 1) := by decide +kernel
theorem dX11_sureTune_11 : decode cX11_sureTune 11 = .ok (.getfield 50, 3) := by decide +kernel
theorem dX11_sureTune_14 : decode cX11_sureTune 14 = .ok (.bipush 10, 2) := by decide +kernel
theorem dX11_sureTune_16 : decode cX11_sureTune 16 = .ok (.iload_n 1, 1) := by decide +kernel
theorem dX11_sureTune_17 : decode cX11_sureTune 17 = .ok (.imul, 1) := by decide +kernel
theorem dX11_sureTune_18 : decode cX11_sureTune 18 = .ok (.iload_n 3, 1) := by decide +kernel
theorem dX11_sureTune_19 : decode cX11_sureTune 19 = .ok (.iadd, 1) := by decide +kernel
theorem dX11_sureTune_20 : decode cX11_sureTune 20 = .ok (.iaload, 1) := by decide +kernel
theorem dX11_sureTune_21 : decode cX11_sureTune 21 = .ok (.ifCond .eq 29, 3) := by decide +kernel
theorem dX11_sureTune_24 : decode cX11_sureTune 24 = .ok (.aload_n 0, 1) := by decide +kernel
theorem dX11_sureTune_25 : decode cX11_sureTune 25 = .ok (.getfield 53, 3) := by decide +kernel
theorem dX11_sureTune_28 : decode cX11_sureTune 28 = .ok (.bipush 10, 2) := by decide +kernel
theorem dX11_sureTune_30 : decode cX11_sureTune 30 = .ok (.iload_n 1, 1) := by decide +kernel
theorem dX11_sureTune_31 : decode cX11_sureTune 31 = .ok (.imul, 1) := by decide +kernel
theorem dX11_sureTune_32 : decode cX11_sureTune 32 = .ok (.iload_n 3, 1) := by decide +kernel
theorem dX11_sureTune_33 : decode cX11_sureTune 33 = .ok (.iadd, 1) := by decide +kernel
theorem dX11_sureTune_34 : decode cX11_sureTune 34 = .ok (.baload, 1) := by decide +kernel
theorem dX11_sureTune_35 : decode cX11_sureTune 35 = .ok (.ifCond .ne 6, 3) := by decide +kernel
theorem dX11_sureTune_38 : decode cX11_sureTune 38 = .ok (.goto 12, 3) := by decide +kernel
theorem dX11_sureTune_41 : decode cX11_sureTune 41 = .ok (.iload_n 2, 1) := by decide +kernel
theorem dX11_sureTune_42 : decode cX11_sureTune 42 = .ok (.iconst (-1), 1) := by decide +kernel
theorem dX11_sureTune_43 : decode cX11_sureTune 43 = .ok (.if_icmp .eq 5, 3) := by decide +kernel
theorem dX11_sureTune_46 : decode cX11_sureTune 46 = .ok (.iconst (-1), 1) := by decide +kernel
theorem dX11_sureTune_47 : decode cX11_sureTune 47 = .ok (.ireturn, 1) := by decide +kernel
theorem dX11_sureTune_48 : decode cX11_sureTune 48 = .ok (.iload_n 3, 1) := by decide +kernel
theorem dX11_sureTune_49 : decode cX11_sureTune 49 = .ok (.istore_n 2, 1) := by decide +kernel
theorem dX11_sureTune_50 : decode cX11_sureTune 50 = .ok (.iinc 3 1, 3) := by decide +kernel
theorem dX11_sureTune_53 : decode cX11_sureTune 53 = .ok (.goto (-49), 3) := by decide +kernel
theorem dX11_sureTune_56 : decode cX11_sureTune 56 = .ok (.iload_n 2, 1) := by decide +kernel
theorem dX11_sureTune_57 : decode cX11_sureTune 57 = .ok (.ireturn, 1) := by decide +kernel
theorem dX11_tunes_0 : decode cX11_tunes 0 = .ok (.aload_n 0, 1) := by decide +kernel
theorem dX11_tunes_1 : decode cX11_tunes 1 = .ok (.iload_n 1, 1) := by decide +kernel
theorem dX11_tunes_2 : decode cX11_tunes 2 = .ok (.invokevirtual 197, 3) := by decide +kernel
theorem dX11_tunes_5 : decode cX11_tunes 5 = .ok (.ifCond .ne 6, 3) := by decide +kernel
theorem dX11_tunes_8 : decode cX11_tunes 8 = .ok (.bipush (-2), 2) := by decide +kernel
theorem dX11_tunes_10 : decode cX11_tunes 10 = .ok (.ireturn, 1) := by decide +kernel
theorem dX11_tunes_11 : decode cX11_tunes 11 = .ok (.aload_n 0, 1) := by decide +kernel
theorem dX11_tunes_12 : decode cX11_tunes 12 = .ok (.invokevirtual 366, 3) := by decide +kernel
theorem dX11_tunes_15 : decode cX11_tunes 15 = .ok (.iload_n 2, 1) := by decide +kernel
theorem dX11_tunes_16 : decode cX11_tunes 16 = .ok (.ifCond .ne 8, 3) := by decide +kernel
theorem dX11_tunes_19 : decode cX11_tunes 19 = .ok (.aload_n 0, 1) := by decide +kernel
theorem dX11_tunes_20 : decode cX11_tunes 20 = .ok (.invokevirtual 369, 3) := by decide +kernel
theorem dX11_tunes_23 : decode cX11_tunes 23 = .ok (.ireturn, 1) := by decide +kernel
theorem dX11_tunes_24 : decode cX11_tunes 24 = .ok (.iload_n 2, 1) := by decide +kernel
theorem dX11_tunes_25 : decode cX11_tunes 25 = .ok (.bipush 10, 2) := by decide +kernel
theorem dX11_tunes_27 : decode cX11_tunes 27 = .ok (.bipush 29, 2) := by decide +kernel
theorem dX11_tunes_29 : decode cX11_tunes 29 = .ok (.invokestatic 123, 3) := by decide +kernel
theorem dX11_tunes_32 : decode cX11_tunes 32 = .ok (.ifCond .eq 15, 3) := by decide +kernel
theorem dX11_tunes_35 : decode cX11_tunes 35 = .ok (.aload_n 0, 1) := by decide +kernel
theorem dX11_tunes_36 : decode cX11_tunes 36 = .ok (.iload_n 2, 1) := by decide +kernel
theorem dX11_tunes_37 : decode cX11_tunes 37 = .ok (.bipush 10, 2) := by decide +kernel
theorem dX11_tunes_39 : decode cX11_tunes 39 = .ok (.irem, 1) := by decide +kernel
theorem dX11_tunes_40 : decode cX11_tunes 40 = .ok (.invokevirtual 372, 3) := by decide +kernel
theorem dX11_tunes_43 : decode cX11_tunes 43 = .ok (.iconst (-1), 1) := by decide +kernel
theorem dX11_tunes_44 : decode cX11_tunes 44 = .ok (.if_icmp .ne 6, 3) := by decide +kernel
theorem dX11_tunes_47 : decode cX11_tunes 47 = .ok (.bipush (-2), 2) := by decide +kernel
theorem dX11_tunes_49 : decode cX11_tunes 49 = .ok (.ireturn, 1) := by decide +kernel
theorem dX11_tunes_50 : decode cX11_tunes 50 = .ok (.aload_n 0, 1) := by decide +kernel
theorem dX11_tunes_51 : decode cX11_tunes 51 = .ok (.invokevirtual 369, 3) := by decide +kernel
theorem dX11_tunes_54 : decode cX11_tunes 54 = .ok (.ifCond .ne 5, 3) := by decide +kernel
theorem dX11_tunes_57 : decode cX11_tunes 57 = .ok (.iconst (-1), 1) := by decide +kernel
theorem dX11_tunes_58 : decode cX11_tunes 58 = .ok (.ireturn, 1) := by decide +kernel
theorem dX11_tunes_59 : decode cX11_tunes 59 = .ok (.iload_n 2, 1) := by decide +kernel
theorem dX11_tunes_60 : decode cX11_tunes 60 = .ok (.bipush 20, 2) := by decide +kernel
theorem dX11_tunes_62 : decode cX11_tunes 62 = .ok (.if_icmp .ge 18, 3) := by decide +kernel
theorem dX11_tunes_65 : decode cX11_tunes 65 = .ok (.aload_n 0, 1) := by decide +kernel
theorem dX11_tunes_66 : decode cX11_tunes 66 = .ok (.aload_n 0, 1) := by decide +kernel
theorem dX11_tunes_67 : decode cX11_tunes 67 = .ok (.iload_n 2, 1) := by decide +kernel
theorem dX11_tunes_68 : decode cX11_tunes 68 = .ok (.bipush 10, 2) := by decide +kernel
theorem dX11_tunes_70 : decode cX11_tunes 70 = .ok (.irem, 1) := by decide +kernel
theorem dX11_tunes_71 : decode cX11_tunes 71 = .ok (.invokevirtual 372, 3) := by decide +kernel
theorem dX11_tunes_74 : decode cX11_tunes 74 = .ok (.invokevirtual 375, 3) := by decide +kernel
theorem dX11_tunes_77 : decode cX11_tunes 77 = .ok (.goto 15, 3) := by decide +kernel
theorem dX11_tunes_80 : decode cX11_tunes 80 = .ok (.aload_n 0, 1) := by decide +kernel
theorem dX11_tunes_81 : decode cX11_tunes 81 = .ok (.aload_n 0, 1) := by decide +kernel
theorem dX11_tunes_82 : decode cX11_tunes 82 = .ok (.iload_n 2, 1) := by decide +kernel
theorem dX11_tunes_83 : decode cX11_tunes 83 = .ok (.bipush 10, 2) := by decide +kernel
theorem dX11_tunes_85 : decode cX11_tunes 85 = .ok (.irem, 1) := by decide +kernel
theorem dX11_tunes_86 : decode cX11_tunes 86 = .ok (.invokevirtual 372, 3) := by decide +kernel
theorem dX11_tunes_89 : decode cX11_tunes 89 = .ok (.invokevirtual 378, 3) := by decide +kernel
theorem dX11_tunes_92 : decode cX11_tunes 92 = .ok (.ireturn, 1) := by decide +kernel
