theorem dX5_seat_0 : decode cX5_seat 0 = .ok (.aload_n 0, 1) := by decide +kernel
theorem dX5_seat_1 : decode cX5_seat 1 = .ok (.aload_n 1, 1) := by decide +kernel
theorem dX5_seat_2 : decode cX5_seat 2 = .ok (.putfield 12, 3) := by decide +kernel
theorem dX5_seat_5 : decode cX5_seat 5 = .ok (.aload_n 0, 1) := by decide +kernel
theorem dX5_seat_6 : decode cX5_seat 6 = .ok (.aload_n 1, 1) := by decide +kernel
theorem dX5_seat_7 : decode cX5_seat 7 = .ok (.getfield 35, 3) := by decide +kernel
theorem dX5_seat_10 : decode cX5_seat 10 = .ok (.iconst 5, 1) := by decide +kernel
theorem dX5_seat_11 : decode cX5_seat 11 = .ok (.invokestatic 36, 3) := by decide +kernel
theorem dX5_seat_14 : decode cX5_seat 14 = .ok (.putfield 22, 3) := by decide +kernel
theorem dX5_seat_17 : decode cX5_seat 17 = .ok (.iconst 0, 1) := by decide +kernel
theorem dX5_seat_18 : decode cX5_seat 18 = .ok (.istore 4, 2) := by decide +kernel
theorem dX5_seat_20 : decode cX5_seat 20 = .ok (.iload 4, 2) := by decide +kernel
theorem dX5_seat_22 : decode cX5_seat 22 = .ok (.aload_n 0, 1) := by decide +kernel
theorem dX5_seat_23 : decode cX5_seat 23 = .ok (.getfield 22, 3) := by decide +kernel
theorem dX5_seat_26 : decode cX5_seat 26 = .ok (.if_icmp .ge 31, 3) := by decide +kernel
theorem dX5_seat_29 : decode cX5_seat 29 = .ok (.aload_n 0, 1) := by decide +kernel
theorem dX5_seat_30 : decode cX5_seat 30 = .ok (.getfield 25, 3) := by decide +kernel
theorem dX5_seat_33 : decode cX5_seat 33 = .ok (.iload 4, 2) := by decide +kernel
theorem dX5_seat_35 : decode cX5_seat 35 = .ok (.iload_n 3, 1) := by decide +kernel
theorem dX5_seat_36 : decode cX5_seat 36 = .ok (.aload_n 1, 1) := by decide +kernel
theorem dX5_seat_37 : decode cX5_seat 37 = .ok (.getfield 42, 3) := by decide +kernel
theorem dX5_seat_40 : decode cX5_seat 40 = .ok (.iload 4, 2) := by decide +kernel
theorem dX5_seat_42 : decode cX5_seat 42 = .ok (.invokestatic 45, 3) := by decide +kernel
theorem dX5_seat_45 : decode cX5_seat 45 = .ok (.iload_n 2, 1) := by decide +kernel
theorem dX5_seat_46 : decode cX5_seat 46 = .ok (.iadd, 1) := by decide +kernel
theorem dX5_seat_47 : decode cX5_seat 47 = .ok (.invokestatic 36, 3) := by decide +kernel
theorem dX5_seat_50 : decode cX5_seat 50 = .ok (.iastore, 1) := by decide +kernel
theorem dX5_seat_51 : decode cX5_seat 51 = .ok (.iinc 4 1, 3) := by decide +kernel
theorem dX5_seat_54 : decode cX5_seat 54 = .ok (.goto (-34), 3) := by decide +kernel
theorem dX5_seat_57 : decode cX5_seat 57 = .ok (.return_, 1) := by decide +kernel
theorem dX5_sendOutAllBut_0 : decode cX5_sendOutAllBut 0 = .ok (.iconst 0, 1) := by decide +kernel
theorem dX5_sendOutAllBut_1 : decode cX5_sendOutAllBut 1 = .ok (.istore_n 2, 1) := by decide +kernel
theorem dX5_sendOutAllBut_2 : decode cX5_sendOutAllBut 2 = .ok (.iload_n 2, 1) := by decide +kernel
theorem dX5_sendOutAllBut_3 : decode cX5_sendOutAllBut 3 = .ok (.aload_n 0, 1) := by decide +kernel
theorem dX5_sendOutAllBut_4 : decode cX5_sendOutAllBut 4 = .ok (.getfield 22, 3) := by decide +kernel
theorem dX5_sendOutAllBut_7 : decode cX5_sendOutAllBut 7 = .ok (.if_icmp .ge 24, 3) := by decide +kernel
theorem dX5_sendOutAllBut_10 : decode cX5_sendOutAllBut 10 = .ok (.iload_n 1, 1) := by decide +kernel
theorem dX5_sendOutAllBut_11 : decode cX5_sendOutAllBut 11 = .ok (.iload_n 2, 1) := by decide +kernel
theorem dX5_sendOutAllBut_12 : decode cX5_sendOutAllBut 12 = .ok (.ishr, 1) := by decide +kernel
theorem dX5_sendOutAllBut_13 : decode cX5_sendOutAllBut 13 = .ok (.iconst 1, 1) := by decide +kernel
theorem dX5_sendOutAllBut_14 : decode cX5_sendOutAllBut 14 = .ok (.iand, 1) := by decide +kernel
theorem dX5_sendOutAllBut_15 : decode cX5_sendOutAllBut 15 = .ok (.ifCond .ne 10, 3) := by decide +kernel
theorem dX5_sendOutAllBut_18 : decode cX5_sendOutAllBut 18 = .ok (.aload_n 0, 1) := by decide +kernel
theorem dX5_sendOutAllBut_19 : decode cX5_sendOutAllBut 19 = .ok (.getfield 25, 3) := by decide +kernel
theorem dX5_sendOutAllBut_22 : decode cX5_sendOutAllBut 22 = .ok (.iload_n 2, 1) := by decide +kernel
theorem dX5_sendOutAllBut_23 : decode cX5_sendOutAllBut 23 = .ok (.iconst 0, 1) := by decide +kernel
theorem dX5_sendOutAllBut_24 : decode cX5_sendOutAllBut 24 = .ok (.iastore, 1) := by decide +kernel
theorem dX5_sendOutAllBut_25 : decode cX5_sendOutAllBut 25 = .ok (.iinc 2 1, 3) := by decide +kernel
theorem dX5_sendOutAllBut_28 : decode cX5_sendOutAllBut 28 = .ok (.goto (-26), 3) := by decide +kernel
theorem dX5_sendOutAllBut_31 : decode cX5_sendOutAllBut 31 = .ok (.return_, 1) := by decide +kernel
theorem dX5_takeIn_0 : decode cX5_takeIn 0 = .ok (.aload_n 0, 1) := by decide +kernel
theorem dX5_takeIn_1 : decode cX5_takeIn 1 = .ok (.getfield 22, 3) := by decide +kernel
theorem dX5_takeIn_4 : decode cX5_takeIn 4 = .ok (.aload_n 0, 1) := by decide +kernel
theorem dX5_takeIn_5 : decode cX5_takeIn 5 = .ok (.getfield 12, 3) := by decide +kernel
theorem dX5_takeIn_8 : decode cX5_takeIn 8 = .ok (.getfield 35, 3) := by decide +kernel
theorem dX5_takeIn_11 : decode cX5_takeIn 11 = .ok (.if_icmp .ne 31, 3) := by decide +kernel
theorem dX5_takeIn_14 : decode cX5_takeIn 14 = .ok (.aload_n 0, 1) := by decide +kernel
theorem dX5_takeIn_15 : decode cX5_takeIn 15 = .ok (.getfield 22, 3) := by decide +kernel
theorem dX5_takeIn_18 : decode cX5_takeIn 18 = .ok (.iconst 5, 1) := by decide +kernel
theorem dX5_takeIn_19 : decode cX5_takeIn 19 = .ok (.if_icmp .gt 23, 3) := by decide +kernel
theorem dX5_takeIn_22 : decode cX5_takeIn 22 = .ok (.aload_n 0, 1) := by decide +kernel
theorem dX5_takeIn_23 : decode cX5_takeIn 23 = .ok (.getfield 25, 3) := by decide +kernel
theorem dX5_takeIn_26 : decode cX5_takeIn 26 = .ok (.aload_n 0, 1) := by decide +kernel
theorem dX5_takeIn_27 : decode cX5_takeIn 27 = .ok (.getfield 22, 3) := by decide +kernel
theorem dX5_takeIn_30 : decode cX5_takeIn 30 = .ok (.iload_n 1, 1) := by decide +kernel
theorem dX5_takeIn_31 : decode cX5_takeIn 31 = .ok (.iastore, 1) := by decide +kernel
theorem dX5_takeIn_32 : decode cX5_takeIn 32 = .ok (.aload_n 0, 1) := by decide +kernel
theorem dX5_takeIn_33 : decode cX5_takeIn 33 = .ok (.dup, 1) := by decide +kernel
theorem dX5_takeIn_34 : decode cX5_takeIn 34 = .ok (.getfield 22, 3) := by decide +kernel
theorem dX5_takeIn_37 : decode cX5_takeIn 37 = .ok (.iconst 1, 1) := by decide +kernel
theorem dX5_takeIn_38 : decode cX5_takeIn 38 = .ok (.iadd, 1) := by decide +kernel
theorem dX5_takeIn_39 : decode cX5_takeIn 39 = .ok (.putfield 22, 3) := by decide +kernel
theorem dX5_takeIn_42 : decode cX5_takeIn 42 = .ok (.return_, 1) := by decide +kernel
theorem dX5_canTake_0 : decode cX5_canTake 0 = .ok (.iload_n 1, 1) := by decide +kernel
theorem dX5_canTake_1 : decode cX5_canTake 1 = .ok (.aload_n 0, 1) := by decide +kernel
theorem dX5_canTake_2 : decode cX5_canTake 2 = .ok (.getfield 12, 3) := by decide +kernel
theorem dX5_canTake_5 : decode cX5_canTake 5 = .ok (.getfield 35, 3) := by decide +kernel
theorem dX5_canTake_8 : decode cX5_canTake 8 = .ok (.if_icmp .ne 7, 3) := by decide +kernel
theorem dX5_canTake_11 : decode cX5_canTake 11 = .ok (.iconst 1, 1) := by decide +kernel
theorem dX5_canTake_12 : decode cX5_canTake 12 = .ok (.goto 4, 3) := by decide +kernel
theorem dX5_canTake_15 : decode cX5_canTake 15 = .ok (.iconst 0, 1) := by decide +kernel
theorem dX5_canTake_16 : decode cX5_canTake 16 = .ok (.istore_n 3, 1) := by decide +kernel
theorem dX5_canTake_17 : decode cX5_canTake 17 = .ok (.iload_n 1, 1) := by decide +kernel
theorem dX5_canTake_18 : decode cX5_canTake 18 = .ok (.aload_n 0, 1) := by decide +kernel
theorem dX5_canTake_19 : decode cX5_canTake 19 = .ok (.getfield 22, 3) := by decide +kernel
theorem dX5_canTake_22 : decode cX5_canTake 22 = .ok (.if_icmp .ge 56, 3) := by decide +kernel
theorem dX5_canTake_25 : decode cX5_canTake 25 = .ok (.aload_n 0, 1) := by decide +kernel
theorem dX5_canTake_26 : decode cX5_canTake 26 = .ok (.getfield 25, 3) := by decide +kernel
theorem dX5_canTake_29 : decode cX5_canTake 29 = .ok (.iload_n 1, 1) := by decide +kernel
theorem dX5_canTake_30 : decode cX5_canTake 30 = .ok (.invokestatic 45, 3) := by decide +kernel
theorem dX5_canTake_33 : decode cX5_canTake 33 = .ok (.aload_n 0, 1) := by decide +kernel
theorem dX5_canTake_34 : decode cX5_canTake 34 = .ok (.getfield 12, 3) := by decide +kernel
theorem dX5_canTake_37 : decode cX5_canTake 37 = .ok (.getfield 63, 3) := by decide +kernel
theorem dX5_canTake_40 : decode cX5_canTake 40 = .ok (.iload_n 2, 1) := by decide +kernel
theorem dX5_canTake_41 : decode cX5_canTake 41 = .ok (.invokestatic 45, 3) := by decide +kernel
theorem dX5_canTake_44 : decode cX5_canTake 44 = .ok (.if_icmp .lt 34, 3) := by decide +kernel
theorem dX5_canTake_47 : decode cX5_canTake 47 = .ok (.iload_n 3, 1) := by decide +kernel
theorem dX5_canTake_48 : decode cX5_canTake 48 = .ok (.ifCond .ne 26, 3) := by decide +kernel
theorem dX5_canTake_51 : decode cX5_canTake 51 = .ok (.aload_n 0, 1) := by decide +kernel
theorem dX5_canTake_52 : decode cX5_canTake 52 = .ok (.getfield 12, 3) := by decide +kernel
theorem dX5_canTake_55 : decode cX5_canTake 55 = .ok (.iload_n 1, 1) := by decide +kernel
theorem dX5_canTake_56 : decode cX5_canTake 56 = .ok (.aload_n 0, 1) := by decide +kernel
theorem dX5_canTake_57 : decode cX5_canTake 57 = .ok (.getfield 12, 3) := by decide +kernel
theorem dX5_canTake_60 : decode cX5_canTake 60 = .ok (.getfield 70, 3) := by decide +kernel
theorem dX5_canTake_63 : decode cX5_canTake 63 = .ok (.iload_n 2, 1) := by decide +kernel
theorem dX5_canTake_64 : decode cX5_canTake 64 = .ok (.invokestatic 45, 3) := by decide +kernel
theorem dX5_canTake_67 : decode cX5_canTake 67 = .ok (.iconst 0, 1) := by decide +kernel
theorem dX5_canTake_68 : decode cX5_canTake 68 = .ok (.invokevirtual 73, 3) := by decide +kernel
theorem dX5_canTake_71 : decode cX5_canTake 71 = .ok (.ifCond .eq 7, 3) := by decide +kernel
theorem dX5_canTake_74 : decode cX5_canTake 74 = .ok (.iconst 1, 1) := by decide +kernel
theorem dX5_canTake_75 : decode cX5_canTake 75 = .ok (.goto 4, 3) := by decide +kernel
theorem dX5_canTake_78 : decode cX5_canTake 78 = .ok (.iconst 0, 1) := by decide +kernel
theorem dX5_canTake_79 : decode cX5_canTake 79 = .ok (.ireturn, 1) := by decide +kernel
theorem dX5_prepares_0 : decode cX5_prepares 0 = .ok (.aload_n 0, 1) := by decide +kernel
theorem dX5_prepares_1 : decode cX5_prepares 1 = .ok (.iconst 0, 1) := by decide +kernel
theorem dX5_prepares_2 : decode cX5_prepares 2 = .ok (.iload_n 1, 1) := by decide +kernel
theorem dX5_prepares_3 : decode cX5_prepares 3 = .ok (.aload_n 0, 1) := by decide +kernel
theorem dX5_prepares_4 : decode cX5_prepares 4 = .ok (.getfield 12, 3) := by decide +kernel
theorem dX5_prepares_7 : decode cX5_prepares 7 = .ok (.getfield 56, 3) := by decide +kernel
theorem dX5_prepares_10 : decode cX5_prepares 10 = .ok (.bipush 8, 2) := by decide +kernel
theorem dX5_prepares_12 : decode cX5_prepares 12 = .ok (.invokestatic 36, 3) := by decide +kernel
theorem dX5_prepares_15 : decode cX5_prepares 15 = .ok (.invokestatic 36, 3) := by decide +kernel
theorem dX5_prepares_18 : decode cX5_prepares 18 = .ok (.invokestatic 57, 3) := by decide +kernel
theorem dX5_prepares_21 : decode cX5_prepares 21 = .ok (.putfield 18, 3) := by decide +kernel
theorem dX5_prepares_24 : decode cX5_prepares 24 = .ok (.aload_n 0, 1) := by decide +kernel
theorem dX5_prepares_25 : decode cX5_prepares 25 = .ok (.getfield 32, 3) := by decide +kernel
theorem dX5_prepares_28 : decode cX5_prepares 28 = .ok (.aload_n 0, 1) := by decide +kernel
theorem dX5_prepares_29 : decode cX5_prepares 29 = .ok (.getfield 18, 3) := by decide +kernel
theorem dX5_prepares_32 : decode cX5_prepares 32 = .ok (.bipush 127, 2) := by decide +kernel
theorem dX5_prepares_34 : decode cX5_prepares 34 = .ok (.iastore, 1) := by decide +kernel
theorem dX5_prepares_35 : decode cX5_prepares 35 = .ok (.iconst 0, 1) := by decide +kernel
theorem dX5_prepares_36 : decode cX5_prepares 36 = .ok (.istore_n 2, 1) := by decide +kernel
theorem dX5_prepares_37 : decode cX5_prepares 37 = .ok (.aload_n 0, 1) := by decide +kernel
theorem dX5_prepares_38 : decode cX5_prepares 38 = .ok (.getfield 18, 3) := by decide +kernel
theorem dX5_prepares_41 : decode cX5_prepares 41 = .ok (.iconst 1, 1) := by decide +kernel
theorem dX5_prepares_42 : decode cX5_prepares 42 = .ok (.isub, 1) := by decide +kernel
theorem dX5_prepares_43 : decode cX5_prepares 43 = .ok (.istore_n 3, 1) := by decide +kernel
theorem dX5_prepares_44 : decode cX5_prepares 44 = .ok (.iload_n 3, 1) := by decide +kernel
theorem dX5_prepares_45 : decode cX5_prepares 45 = .ok (.ifCond .lt 129, 3) := by decide +kernel
theorem dX5_prepares_48 : decode cX5_prepares 48 = .ok (.aload_n 0, 1) := by decide +kernel
theorem dX5_prepares_49 : decode cX5_prepares 49 = .ok (.getfield 12, 3) := by decide +kernel
theorem dX5_prepares_52 : decode cX5_prepares 52 = .ok (.iload_n 3, 1) := by decide +kernel
theorem dX5_prepares_53 : decode cX5_prepares 53 = .ok (.invokevirtual 60, 3) := by decide +kernel
theorem dX5_prepares_56 : decode cX5_prepares 56 = .ok (.istore 4, 2) := by decide +kernel
theorem dX5_prepares_58 : decode cX5_prepares 58 = .ok (.iload_n 2, 1) := by decide +kernel
theorem dX5_prepares_59 : decode cX5_prepares 59 = .ok (.iload 4, 2) := by decide +kernel
theorem dX5_prepares_61 : decode cX5_prepares 61 = .ok (.ifCond .eq 17, 3) := by decide +kernel
theorem dX5_prepares_64 : decode cX5_prepares 64 = .ok (.aload_n 0, 1) := by decide +kernel
theorem dX5_prepares_65 : decode cX5_prepares 65 = .ok (.getfield 12, 3) := by decide +kernel
theorem dX5_prepares_68 : decode cX5_prepares 68 = .ok (.getfield 63, 3) := by decide +kernel
theorem dX5_prepares_71 : decode cX5_prepares 71 = .ok (.iload_n 3, 1) := by decide +kernel
theorem dX5_prepares_72 : decode cX5_prepares 72 = .ok (.invokestatic 45, 3) := by decide +kernel
theorem dX5_prepares_75 : decode cX5_prepares 75 = .ok (.goto 4, 3) := by decide +kernel
theorem dX5_prepares_78 : decode cX5_prepares 78 = .ok (.iconst 0, 1) := by decide +kernel
theorem dX5_prepares_79 : decode cX5_prepares 79 = .ok (.iadd, 1) := by decide +kernel
theorem dX5_prepares_80 : decode cX5_prepares 80 = .ok (.istore_n 2, 1) := by decide +kernel
theorem dX5_prepares_81 : decode cX5_prepares 81 = .ok (.aload_n 0, 1) := by decide +kernel
theorem dX5_prepares_82 : decode cX5_prepares 82 = .ok (.getfield 32, 3) := by decide +kernel
theorem dX5_prepares_85 : decode cX5_prepares 85 = .ok (.iload_n 3, 1) := by decide +kernel
theorem dX5_prepares_86 : decode cX5_prepares 86 = .ok (.aload_n 0, 1) := by decide +kernel
theorem dX5_prepares_87 : decode cX5_prepares 87 = .ok (.getfield 32, 3) := by decide +kernel
theorem dX5_prepares_90 : decode cX5_prepares 90 = .ok (.iload_n 3, 1) := by decide +kernel
theorem dX5_prepares_91 : decode cX5_prepares 91 = .ok (.iconst 1, 1) := by decide +kernel
theorem dX5_prepares_92 : decode cX5_prepares 92 = .ok (.iadd, 1) := by decide +kernel
theorem dX5_prepares_93 : decode cX5_prepares 93 = .ok (.iaload, 1) := by decide +kernel
theorem dX5_prepares_94 : decode cX5_prepares 94 = .ok (.ifCond .ne 7, 3) := by decide +kernel
theorem dX5_prepares_97 : decode cX5_prepares 97 = .ok (.iconst 0, 1) := by decide +kernel
theorem dX5_prepares_98 : decode cX5_prepares 98 = .ok (.goto 5, 3) := by decide +kernel
theorem dX5_prepares_101 : decode cX5_prepares 101 = .ok (.bipush 127, 2) := by decide +kernel
theorem dX5_prepares_103 : decode cX5_prepares 103 = .ok (.iastore, 1) := by decide +kernel
theorem dX5_prepares_104 : decode cX5_prepares 104 = .ok (.iconst 0, 1) := by decide +kernel
theorem dX5_prepares_105 : decode cX5_prepares 105 = .ok (.istore 5, 2) := by decide +kernel
theorem dX5_prepares_107 : decode cX5_prepares 107 = .ok (.iload 4, 2) := by decide +kernel
theorem dX5_prepares_109 : decode cX5_prepares 109 = .ok (.ifCond .eq 59, 3) := by decide +kernel
theorem dX5_prepares_112 : decode cX5_prepares 112 = .ok (.iload 5, 2) := by decide +kernel
theorem dX5_prepares_114 : decode cX5_prepares 114 = .ok (.bipush 6, 2) := by decide +kernel
theorem dX5_prepares_116 : decode cX5_prepares 116 = .ok (.if_icmp .gt 52, 3) := by decide +kernel
theorem dX5_prepares_119 : decode cX5_prepares 119 = .ok (.aload_n 0, 1) := by decide +kernel
theorem dX5_prepares_120 : decode cX5_prepares 120 = .ok (.iload 5, 2) := by decide +kernel
theorem dX5_prepares_122 : decode cX5_prepares 122 = .ok (.iload_n 3, 1) := by decide +kernel
theorem dX5_prepares_123 : decode cX5_prepares 123 = .ok (.invokevirtual 66, 3) := by decide +kernel
theorem dX5_prepares_126 : decode cX5_prepares 126 = .ok (.ifCond .eq 21, 3) := by decide +kernel
theorem dX5_prepares_129 : decode cX5_prepares 129 = .ok (.aload_n 0, 1) := by decide +kernel
theorem dX5_prepares_130 : decode cX5_prepares 130 = .ok (.getfield 32, 3) := by decide +kernel
theorem dX5_prepares_133 : decode cX5_prepares 133 = .ok (.iload_n 3, 1) := by decide +kernel
theorem dX5_prepares_134 : decode cX5_prepares 134 = .ok (.iconst 1, 1) := by decide +kernel
theorem dX5_prepares_135 : decode cX5_prepares 135 = .ok (.iadd, 1) := by decide +kernel
theorem dX5_prepares_136 : decode cX5_prepares 136 = .ok (.iaload, 1) := by decide +kernel
theorem dX5_prepares_137 : decode cX5_prepares 137 = .ok (.iconst 1, 1) := by decide +kernel
theorem dX5_prepares_138 : decode cX5_prepares 138 = .ok (.iload 5, 2) := by decide +kernel
theorem dX5_prepares_140 : decode cX5_prepares 140 = .ok (.ishl, 1) := by decide +kernel
theorem dX5_prepares_141 : decode cX5_prepares 141 = .ok (.iconst (-1), 1) := by decide +kernel
theorem dX5_prepares_142 : decode cX5_prepares 142 = .ok (.ixor, 1) := by decide +kernel
theorem dX5_prepares_143 : decode cX5_prepares 143 = .ok (.iand, 1) := by decide +kernel
theorem dX5_prepares_144 : decode cX5_prepares 144 = .ok (.ifCond .ne 18, 3) := by decide +kernel
theorem dX5_prepares_147 : decode cX5_prepares 147 = .ok (.aload_n 0, 1) := by decide +kernel
theorem dX5_prepares_148 : decode cX5_prepares 148 = .ok (.getfield 32, 3) := by decide +kernel
theorem dX5_prepares_151 : decode cX5_prepares 151 = .ok (.iload_n 3, 1) := by decide +kernel
theorem dX5_prepares_152 : decode cX5_prepares 152 = .ok (.dup2, 1) := by decide +kernel
theorem dX5_prepares_153 : decode cX5_prepares 153 = .ok (.iaload, 1) := by decide +kernel
theorem dX5_prepares_154 : decode cX5_prepares 154 = .ok (.iconst 1, 1) := by decide +kernel
theorem dX5_prepares_155 : decode cX5_prepares 155 = .ok (.iload 5, 2) := by decide +kernel
theorem dX5_prepares_157 : decode cX5_prepares 157 = .ok (.ishl, 1) := by decide +kernel
theorem dX5_prepares_158 : decode cX5_prepares 158 = .ok (.iconst (-1), 1) := by decide +kernel
theorem dX5_prepares_159 : decode cX5_prepares 159 = .ok (.ixor, 1) := by decide +kernel
theorem dX5_prepares_160 : decode cX5_prepares 160 = .ok (.iand, 1) := by decide +kernel
theorem dX5_prepares_161 : decode cX5_prepares 161 = .ok (.iastore, 1) := by decide +kernel
theorem dX5_prepares_162 : decode cX5_prepares 162 = .ok (.iinc 5 1, 3) := by decide +kernel
theorem dX5_prepares_165 : decode cX5_prepares 165 = .ok (.goto (-58), 3) := by decide +kernel
theorem dX5_prepares_168 : decode cX5_prepares 168 = .ok (.iinc 3 (-1), 3) := by decide +kernel
theorem dX5_prepares_171 : decode cX5_prepares 171 = .ok (.goto (-127), 3) := by decide +kernel
theorem dX5_prepares_174 : decode cX5_prepares 174 = .ok (.iconst 0, 1) := by decide +kernel
theorem dX5_prepares_175 : decode cX5_prepares 175 = .ok (.istore_n 3, 1) := by decide +kernel
theorem dX5_prepares_176 : decode cX5_prepares 176 = .ok (.iload_n 3, 1) := by decide +kernel
theorem dX5_prepares_177 : decode cX5_prepares 177 = .ok (.aload_n 0, 1) := by decide +kernel
theorem dX5_prepares_178 : decode cX5_prepares 178 = .ok (.getfield 22, 3) := by decide +kernel
theorem dX5_prepares_181 : decode cX5_prepares 181 = .ok (.if_icmp .ge 20, 3) := by decide +kernel
theorem dX5_prepares_184 : decode cX5_prepares 184 = .ok (.iload_n 2, 1) := by decide +kernel
theorem dX5_prepares_185 : decode cX5_prepares 185 = .ok (.aload_n 0, 1) := by decide +kernel
theorem dX5_prepares_186 : decode cX5_prepares 186 = .ok (.getfield 25, 3) := by decide +kernel
theorem dX5_prepares_189 : decode cX5_prepares 189 = .ok (.iload_n 3, 1) := by decide +kernel
theorem dX5_prepares_190 : decode cX5_prepares 190 = .ok (.invokestatic 45, 3) := by decide +kernel
theorem dX5_prepares_193 : decode cX5_prepares 193 = .ok (.isub, 1) := by decide +kernel
theorem dX5_prepares_194 : decode cX5_prepares 194 = .ok (.istore_n 2, 1) := by decide +kernel
theorem dX5_prepares_195 : decode cX5_prepares 195 = .ok (.iinc 3 1, 3) := by decide +kernel
theorem dX5_prepares_198 : decode cX5_prepares 198 = .ok (.goto (-22), 3) := by decide +kernel
theorem dX5_prepares_201 : decode cX5_prepares 201 = .ok (.aload_n 0, 1) := by decide +kernel
theorem dX5_prepares_202 : decode cX5_prepares 202 = .ok (.getfield 32, 3) := by decide +kernel
theorem dX5_prepares_205 : decode cX5_prepares 205 = .ok (.iconst 0, 1) := by decide +kernel
theorem dX5_prepares_206 : decode cX5_prepares 206 = .ok (.iaload, 1) := by decide +kernel
theorem dX5_prepares_207 : decode cX5_prepares 207 = .ok (.ifCond .eq 11, 3) := by decide +kernel
theorem dX5_prepares_210 : decode cX5_prepares 210 = .ok (.iload_n 2, 1) := by decide +kernel
theorem dX5_prepares_211 : decode cX5_prepares 211 = .ok (.ifCond .gt 7, 3) := by decide +kernel
theorem dX5_prepares_214 : decode cX5_prepares 214 = .ok (.iconst 1, 1) := by decide +kernel
theorem dX5_prepares_215 : decode cX5_prepares 215 = .ok (.goto 4, 3) := by decide +kernel
theorem dX5_prepares_218 : decode cX5_prepares 218 = .ok (.iconst 0, 1) := by decide +kernel
theorem dX5_prepares_219 : decode cX5_prepares 219 = .ok (.ireturn, 1) := by decide +kernel
theorem dX5_maySing_0 : decode cX5_maySing 0 = .ok (.iload_n 1, 1) := by decide +kernel
theorem dX5_maySing_1 : decode cX5_maySing 1 = .ok (.ifCond .lt 69, 3) := by decide +kernel
theorem dX5_maySing_4 : decode cX5_maySing 4 = .ok (.iload_n 1, 1) := by decide +kernel
theorem dX5_maySing_5 : decode cX5_maySing 5 = .ok (.aload_n 0, 1) := by decide +kernel
theorem dX5_maySing_6 : decode cX5_maySing 6 = .ok (.getfield 25, 3) := by decide +kernel
theorem dX5_maySing_9 : decode cX5_maySing 9 = .ok (.arraylength, 1) := by decide +kernel
theorem dX5_maySing_10 : decode cX5_maySing 10 = .ok (.if_icmp .ge 60, 3) := by decide +kernel
theorem dX5_maySing_13 : decode cX5_maySing 13 = .ok (.aload_n 0, 1) := by decide +kernel
theorem dX5_maySing_14 : decode cX5_maySing 14 = .ok (.getfield 32, 3) := by decide +kernel
theorem dX5_maySing_17 : decode cX5_maySing 17 = .ok (.iload_n 2, 1) := by decide +kernel
theorem dX5_maySing_18 : decode cX5_maySing 18 = .ok (.invokestatic 45, 3) := by decide +kernel
theorem dX5_maySing_21 : decode cX5_maySing 21 = .ok (.iload_n 1, 1) := by decide +kernel
theorem dX5_maySing_22 : decode cX5_maySing 22 = .ok (.ishr, 1) := by decide +kernel
theorem dX5_maySing_23 : decode cX5_maySing 23 = .ok (.iconst 1, 1) := by decide +kernel
theorem dX5_maySing_24 : decode cX5_maySing 24 = .ok (.iand, 1) := by decide +kernel
theorem dX5_maySing_25 : decode cX5_maySing 25 = .ok (.ifCond .eq 45, 3) := by decide +kernel
theorem dX5_maySing_28 : decode cX5_maySing 28 = .ok (.aload_n 0, 1) := by decide +kernel
theorem dX5_maySing_29 : decode cX5_maySing 29 = .ok (.getfield 25, 3) := by decide +kernel
theorem dX5_maySing_32 : decode cX5_maySing 32 = .ok (.iload_n 1, 1) := by decide +kernel
theorem dX5_maySing_33 : decode cX5_maySing 33 = .ok (.iaload, 1) := by decide +kernel
theorem dX5_maySing_34 : decode cX5_maySing 34 = .ok (.aload_n 0, 1) := by decide +kernel
theorem dX5_maySing_35 : decode cX5_maySing 35 = .ok (.getfield 12, 3) := by decide +kernel
theorem dX5_maySing_38 : decode cX5_maySing 38 = .ok (.getfield 63, 3) := by decide +kernel
theorem dX5_maySing_41 : decode cX5_maySing 41 = .ok (.iload_n 2, 1) := by decide +kernel
theorem dX5_maySing_42 : decode cX5_maySing 42 = .ok (.invokestatic 45, 3) := by decide +kernel
theorem dX5_maySing_45 : decode cX5_maySing 45 = .ok (.if_icmp .lt 25, 3) := by decide +kernel
theorem dX5_maySing_48 : decode cX5_maySing 48 = .ok (.iload_n 2, 1) := by decide +kernel
theorem dX5_maySing_49 : decode cX5_maySing 49 = .ok (.ifCond .eq 17, 3) := by decide +kernel
theorem dX5_maySing_52 : decode cX5_maySing 52 = .ok (.aload_n 0, 1) := by decide +kernel
theorem dX5_maySing_53 : decode cX5_maySing 53 = .ok (.getfield 29, 3) := by decide +kernel
theorem dX5_maySing_56 : decode cX5_maySing 56 = .ok (.iload_n 2, 1) := by decide +kernel
theorem dX5_maySing_57 : decode cX5_maySing 57 = .ok (.iconst 1, 1) := by decide +kernel
theorem dX5_maySing_58 : decode cX5_maySing 58 = .ok (.isub, 1) := by decide +kernel
theorem dX5_maySing_59 : decode cX5_maySing 59 = .ok (.invokestatic 45, 3) := by decide +kernel
theorem dX5_maySing_62 : decode cX5_maySing 62 = .ok (.iload_n 1, 1) := by decide +kernel
theorem dX5_maySing_63 : decode cX5_maySing 63 = .ok (.if_icmp .eq 7, 3) := by decide +kernel
theorem dX5_maySing_66 : decode cX5_maySing 66 = .ok (.iconst 1, 1) := by decide +kernel
theorem dX5_maySing_67 : decode cX5_maySing 67 = .ok (.goto 4, 3) := by decide +kernel
theorem dX5_maySing_70 : decode cX5_maySing 70 = .ok (.iconst 0, 1) := by decide +kernel
theorem dX5_maySing_71 : decode cX5_maySing 71 = .ok (.ireturn, 1) := by decide +kernel
theorem dX5_places_0 : decode cX5_places 0 = .ok (.iload_n 1, 1) := by decide +kernel
theorem dX5_places_1 : decode cX5_places 1 = .ok (.ifCond .lt 17, 3) := by decide +kernel
theorem dX5_places_4 : decode cX5_places 4 = .ok (.iload_n 1, 1) := by decide +kernel
theorem dX5_places_5 : decode cX5_places 5 = .ok (.aload_n 0, 1) := by decide +kernel
theorem dX5_places_6 : decode cX5_places 6 = .ok (.getfield 18, 3) := by decide +kernel
theorem dX5_places_9 : decode cX5_places 9 = .ok (.if_icmp .ge 9, 3) := by decide +kernel
theorem dX5_places_12 : decode cX5_places 12 = .ok (.iload_n 1, 1) := by decide +kernel
theorem dX5_places_13 : decode cX5_places 13 = .ok (.bipush 8, 2) := by decide +kernel
theorem dX5_places_15 : decode cX5_places 15 = .ok (.if_icmp .lt 5, 3) := by decide +kernel
theorem dX5_places_18 : decode cX5_places 18 = .ok (.iconst 1, 1) := by decide +kernel
theorem dX5_places_19 : decode cX5_places 19 = .ok (.ireturn, 1) := by decide +kernel
theorem dX5_places_20 : decode cX5_places 20 = .ok (.aload_n 0, 1) := by decide +kernel
theorem dX5_places_21 : decode cX5_places 21 = .ok (.getfield 29, 3) := by decide +kernel
theorem dX5_places_24 : decode cX5_places 24 = .ok (.iload_n 1, 1) := by decide +kernel
theorem dX5_places_25 : decode cX5_places 25 = .ok (.iconst (-1), 1) := by decide +kernel
theorem dX5_places_26 : decode cX5_places 26 = .ok (.iastore, 1) := by decide +kernel
theorem dX5_places_27 : decode cX5_places 27 = .ok (.aload_n 0, 1) := by decide +kernel
theorem dX5_places_28 : decode cX5_places 28 = .ok (.getfield 12, 3) := by decide +kernel
theorem dX5_places_31 : decode cX5_places 31 = .ok (.iload_n 1, 1) := by decide +kernel
theorem dX5_places_32 : decode cX5_places 32 = .ok (.invokevirtual 60, 3) := by decide +kernel
theorem dX5_places_35 : decode cX5_places 35 = .ok (.ifCond .ne 11, 3) := by decide +kernel
theorem dX5_places_38 : decode cX5_places 38 = .ok (.aload_n 0, 1) := by decide +kernel
theorem dX5_places_39 : decode cX5_places 39 = .ok (.iload_n 1, 1) := by decide +kernel
theorem dX5_places_40 : decode cX5_places 40 = .ok (.iconst 1, 1) := by decide +kernel
theorem dX5_places_41 : decode cX5_places 41 = .ok (.iadd, 1) := by decide +kernel
theorem dX5_places_42 : decode cX5_places 42 = .ok (.invokevirtual 53, 3) := by decide +kernel
theorem dX5_places_45 : decode cX5_places 45 = .ok (.ireturn, 1) := by decide +kernel
theorem dX5_places_46 : decode cX5_places 46 = .ok (.aload_n 0, 1) := by decide +kernel
theorem dX5_places_47 : decode cX5_places 47 = .ok (.getfield 12, 3) := by decide +kernel
theorem dX5_places_50 : decode cX5_places 50 = .ok (.getfield 63, 3) := by decide +kernel
theorem dX5_places_53 : decode cX5_places 53 = .ok (.iload_n 1, 1) := by decide +kernel
theorem dX5_places_54 : decode cX5_places 54 = .ok (.invokestatic 45, 3) := by decide +kernel
theorem dX5_places_57 : decode cX5_places 57 = .ok (.istore_n 2, 1) := by decide +kernel
theorem dX5_places_58 : decode cX5_places 58 = .ok (.iconst 0, 1) := by decide +kernel
theorem dX5_places_59 : decode cX5_places 59 = .ok (.istore_n 3, 1) := by decide +kernel
theorem dX5_places_60 : decode cX5_places 60 = .ok (.iload_n 3, 1) := by decide +kernel
theorem dX5_places_61 : decode cX5_places 61 = .ok (.aload_n 0, 1) := by decide +kernel
theorem dX5_places_62 : decode cX5_places 62 = .ok (.getfield 22, 3) := by decide +kernel
theorem dX5_places_65 : decode cX5_places 65 = .ok (.if_icmp .ge 66, 3) := by decide +kernel
theorem dX5_places_68 : decode cX5_places 68 = .ok (.iload_n 3, 1) := by decide +kernel
theorem dX5_places_69 : decode cX5_places 69 = .ok (.aload_n 0, 1) := by decide +kernel
theorem dX5_places_70 : decode cX5_places 70 = .ok (.getfield 25, 3) := by decide +kernel
theorem dX5_places_73 : decode cX5_places 73 = .ok (.arraylength, 1) := by decide +kernel
theorem dX5_places_74 : decode cX5_places 74 = .ok (.if_icmp .ge 57, 3) := by decide +kernel
theorem dX5_places_77 : decode cX5_places 77 = .ok (.aload_n 0, 1) := by decide +kernel
theorem dX5_places_78 : decode cX5_places 78 = .ok (.iload_n 3, 1) := by decide +kernel
theorem dX5_places_79 : decode cX5_places 79 = .ok (.iload_n 1, 1) := by decide +kernel
theorem dX5_places_80 : decode cX5_places 80 = .ok (.invokevirtual 77, 3) := by decide +kernel
theorem dX5_places_83 : decode cX5_places 83 = .ok (.ifCond .eq 42, 3) := by decide +kernel
theorem dX5_places_86 : decode cX5_places 86 = .ok (.aload_n 0, 1) := by decide +kernel
theorem dX5_places_87 : decode cX5_places 87 = .ok (.getfield 29, 3) := by decide +kernel
theorem dX5_places_90 : decode cX5_places 90 = .ok (.iload_n 1, 1) := by decide +kernel
theorem dX5_places_91 : decode cX5_places 91 = .ok (.iload_n 3, 1) := by decide +kernel
theorem dX5_places_92 : decode cX5_places 92 = .ok (.iastore, 1) := by decide +kernel
theorem dX5_places_93 : decode cX5_places 93 = .ok (.aload_n 0, 1) := by decide +kernel
theorem dX5_places_94 : decode cX5_places 94 = .ok (.getfield 25, 3) := by decide +kernel
theorem dX5_places_97 : decode cX5_places 97 = .ok (.iload_n 3, 1) := by decide +kernel
theorem dX5_places_98 : decode cX5_places 98 = .ok (.dup2, 1) := by decide +kernel
theorem dX5_places_99 : decode cX5_places 99 = .ok (.iaload, 1) := by decide +kernel
theorem dX5_places_100 : decode cX5_places 100 = .ok (.iload_n 2, 1) := by decide +kernel
theorem dX5_places_101 : decode cX5_places 101 = .ok (.isub, 1) := by decide +kernel
theorem dX5_places_102 : decode cX5_places 102 = .ok (.iastore, 1) := by decide +kernel
theorem dX5_places_103 : decode cX5_places 103 = .ok (.aload_n 0, 1) := by decide +kernel
theorem dX5_places_104 : decode cX5_places 104 = .ok (.iload_n 1, 1) := by decide +kernel
theorem dX5_places_105 : decode cX5_places 105 = .ok (.iconst 1, 1) := by decide +kernel
theorem dX5_places_106 : decode cX5_places 106 = .ok (.iadd, 1) := by decide +kernel
theorem dX5_places_107 : decode cX5_places 107 = .ok (.invokevirtual 53, 3) := by decide +kernel
theorem dX5_places_110 : decode cX5_places 110 = .ok (.ifCond .eq 5, 3) := by decide +kernel
theorem dX5_places_113 : decode cX5_places 113 = .ok (.iconst 1, 1) := by decide +kernel
theorem dX5_places_114 : decode cX5_places 114 = .ok (.ireturn, 1) := by decide +kernel
theorem dX5_places_115 : decode cX5_places 115 = .ok (.aload_n 0, 1) := by decide +kernel
theorem dX5_places_116 : decode cX5_places 116 = .ok (.getfield 25, 3) := by decide +kernel
theorem dX5_places_119 : decode cX5_places 119 = .ok (.iload_n 3, 1) := by decide +kernel
theorem dX5_places_120 : decode cX5_places 120 = .ok (.dup2, 1) := by decide +kernel
theorem dX5_places_121 : decode cX5_places 121 = .ok (.iaload, 1) := by decide +kernel
theorem dX5_places_122 : decode cX5_places 122 = .ok (.iload_n 2, 1) := by decide +kernel
theorem dX5_places_123 : decode cX5_places 123 = .ok (.iadd, 1) := by decide +kernel
theorem dX5_places_124 : decode cX5_places 124 = .ok (.iastore, 1) := by decide +kernel
theorem dX5_places_125 : decode cX5_places 125 = .ok (.iinc 3 1, 3) := by decide +kernel
theorem dX5_places_128 : decode cX5_places 128 = .ok (.goto (-68), 3) := by decide +kernel
theorem dX5_places_131 : decode cX5_places 131 = .ok (.aload_n 0, 1) := by decide +kernel
theorem dX5_places_132 : decode cX5_places 132 = .ok (.getfield 29, 3) := by decide +kernel
theorem dX5_places_135 : decode cX5_places 135 = .ok (.iload_n 1, 1) := by decide +kernel
theorem dX5_places_136 : decode cX5_places 136 = .ok (.iconst (-1), 1) := by decide +kernel
theorem dX5_places_137 : decode cX5_places 137 = .ok (.iastore, 1) := by decide +kernel
theorem dX5_places_138 : decode cX5_places 138 = .ok (.iconst 0, 1) := by decide +kernel
theorem dX5_places_139 : decode cX5_places 139 = .ok (.ireturn, 1) := by decide +kernel
theorem dX5_fills_0 : decode cX5_fills 0 = .ok (.aload_n 0, 1) := by decide +kernel
theorem dX5_fills_1 : decode cX5_fills 1 = .ok (.iload_n 1, 1) := by decide +kernel
theorem dX5_fills_2 : decode cX5_fills 2 = .ok (.invokevirtual 49, 3) := by decide +kernel
theorem dX5_fills_5 : decode cX5_fills 5 = .ok (.ifCond .eq 15, 3) := by decide +kernel
theorem dX5_fills_8 : decode cX5_fills 8 = .ok (.aload_n 0, 1) := by decide +kernel
theorem dX5_fills_9 : decode cX5_fills 9 = .ok (.iconst 0, 1) := by decide +kernel
theorem dX5_fills_10 : decode cX5_fills 10 = .ok (.invokevirtual 53, 3) := by decide +kernel
theorem dX5_fills_13 : decode cX5_fills 13 = .ok (.ifCond .eq 7, 3) := by decide +kernel
theorem dX5_fills_16 : decode cX5_fills 16 = .ok (.iconst 1, 1) := by decide +kernel
theorem dX5_fills_17 : decode cX5_fills 17 = .ok (.goto 4, 3) := by decide +kernel
theorem dX5_fills_20 : decode cX5_fills 20 = .ok (.iconst 0, 1) := by decide +kernel
theorem dX5_fills_21 : decode cX5_fills 21 = .ok (.ireturn, 1) := by decide +kernel
theorem dX5_counts_0 : decode cX5_counts 0 = .ok (.iload_n 1, 1) := by decide +kernel
theorem dX5_counts_1 : decode cX5_counts 1 = .ok (.ifCond .lt 17, 3) := by decide +kernel
theorem dX5_counts_4 : decode cX5_counts 4 = .ok (.iload_n 1, 1) := by decide +kernel
theorem dX5_counts_5 : decode cX5_counts 5 = .ok (.aload_n 0, 1) := by decide +kernel
theorem dX5_counts_6 : decode cX5_counts 6 = .ok (.getfield 18, 3) := by decide +kernel
theorem dX5_counts_9 : decode cX5_counts 9 = .ok (.if_icmp .ge 9, 3) := by decide +kernel
theorem dX5_counts_12 : decode cX5_counts 12 = .ok (.iload_n 1, 1) := by decide +kernel
theorem dX5_counts_13 : decode cX5_counts 13 = .ok (.bipush 8, 2) := by decide +kernel
theorem dX5_counts_15 : decode cX5_counts 15 = .ok (.if_icmp .lt 5, 3) := by decide +kernel
theorem dX5_counts_18 : decode cX5_counts 18 = .ok (.iconst 1, 1) := by decide +kernel
theorem dX5_counts_19 : decode cX5_counts 19 = .ok (.ireturn, 1) := by decide +kernel
theorem dX5_counts_20 : decode cX5_counts 20 = .ok (.aload_n 0, 1) := by decide +kernel
theorem dX5_counts_21 : decode cX5_counts 21 = .ok (.getfield 29, 3) := by decide +kernel
theorem dX5_counts_24 : decode cX5_counts 24 = .ok (.iload_n 1, 1) := by decide +kernel
theorem dX5_counts_25 : decode cX5_counts 25 = .ok (.iconst (-1), 1) := by decide +kernel
theorem dX5_counts_26 : decode cX5_counts 26 = .ok (.iastore, 1) := by decide +kernel
theorem dX5_counts_27 : decode cX5_counts 27 = .ok (.aload_n 0, 1) := by decide +kernel
theorem dX5_counts_28 : decode cX5_counts 28 = .ok (.getfield 12, 3) := by decide +kernel
theorem dX5_counts_31 : decode cX5_counts 31 = .ok (.iload_n 1, 1) := by decide +kernel
theorem dX5_counts_32 : decode cX5_counts 32 = .ok (.invokevirtual 60, 3) := by decide +kernel
theorem dX5_counts_35 : decode cX5_counts 35 = .ok (.ifCond .ne 11, 3) := by decide +kernel
theorem dX5_counts_38 : decode cX5_counts 38 = .ok (.aload_n 0, 1) := by decide +kernel
theorem dX5_counts_39 : decode cX5_counts 39 = .ok (.iload_n 1, 1) := by decide +kernel
theorem dX5_counts_40 : decode cX5_counts 40 = .ok (.iconst 1, 1) := by decide +kernel
theorem dX5_counts_41 : decode cX5_counts 41 = .ok (.iadd, 1) := by decide +kernel
theorem dX5_counts_42 : decode cX5_counts 42 = .ok (.invokevirtual 80, 3) := by decide +kernel
theorem dX5_counts_45 : decode cX5_counts 45 = .ok (.ireturn, 1) := by decide +kernel
theorem dX5_counts_46 : decode cX5_counts 46 = .ok (.iconst 0, 1) := by decide +kernel
theorem dX5_counts_47 : decode cX5_counts 47 = .ok (.istore_n 2, 1) := by decide +kernel
theorem dX5_counts_48 : decode cX5_counts 48 = .ok (.aload_n 0, 1) := by decide +kernel
theorem dX5_counts_49 : decode cX5_counts 49 = .ok (.getfield 12, 3) := by decide +kernel
theorem dX5_counts_52 : decode cX5_counts 52 = .ok (.getfield 63, 3) := by decide +kernel
theorem dX5_counts_55 : decode cX5_counts 55 = .ok (.iload_n 1, 1) := by decide +kernel
theorem dX5_counts_56 : decode cX5_counts 56 = .ok (.invokestatic 45, 3) := by decide +kernel
theorem dX5_counts_59 : decode cX5_counts 59 = .ok (.istore_n 3, 1) := by decide +kernel
theorem dX5_counts_60 : decode cX5_counts 60 = .ok (.iconst 0, 1) := by decide +kernel
theorem dX5_counts_61 : decode cX5_counts 61 = .ok (.istore 4, 2) := by decide +kernel
theorem dX5_counts_63 : decode cX5_counts 63 = .ok (.iload 4, 2) := by decide +kernel
theorem dX5_counts_65 : decode cX5_counts 65 = .ok (.aload_n 0, 1) := by decide +kernel
theorem dX5_counts_66 : decode cX5_counts 66 = .ok (.getfield 22, 3) := by decide +kernel
theorem dX5_counts_69 : decode cX5_counts 69 = .ok (.if_icmp .ge 74, 3) := by decide +kernel
theorem dX5_counts_72 : decode cX5_counts 72 = .ok (.iload 4, 2) := by decide +kernel
theorem dX5_counts_74 : decode cX5_counts 74 = .ok (.aload_n 0, 1) := by decide +kernel
theorem dX5_counts_75 : decode cX5_counts 75 = .ok (.getfield 25, 3) := by decide +kernel
theorem dX5_counts_78 : decode cX5_counts 78 = .ok (.arraylength, 1) := by decide +kernel
theorem dX5_counts_79 : decode cX5_counts 79 = .ok (.if_icmp .ge 64, 3) := by decide +kernel
theorem dX5_counts_82 : decode cX5_counts 82 = .ok (.aload_n 0, 1) := by decide +kernel
theorem dX5_counts_83 : decode cX5_counts 83 = .ok (.iload 4, 2) := by decide +kernel
theorem dX5_counts_85 : decode cX5_counts 85 = .ok (.iload_n 1, 1) := by decide +kernel
theorem dX5_counts_86 : decode cX5_counts 86 = .ok (.invokevirtual 77, 3) := by decide +kernel
theorem dX5_counts_89 : decode cX5_counts 89 = .ok (.ifCond .eq 48, 3) := by decide +kernel
theorem dX5_counts_92 : decode cX5_counts 92 = .ok (.aload_n 0, 1) := by decide +kernel
theorem dX5_counts_93 : decode cX5_counts 93 = .ok (.getfield 29, 3) := by decide +kernel
theorem dX5_counts_96 : decode cX5_counts 96 = .ok (.iload_n 1, 1) := by decide +kernel
theorem dX5_counts_97 : decode cX5_counts 97 = .ok (.iload 4, 2) := by decide +kernel
theorem dX5_counts_99 : decode cX5_counts 99 = .ok (.iastore, 1) := by decide +kernel
theorem dX5_counts_100 : decode cX5_counts 100 = .ok (.aload_n 0, 1) := by decide +kernel
theorem dX5_counts_101 : decode cX5_counts 101 = .ok (.getfield 25, 3) := by decide +kernel
theorem dX5_counts_104 : decode cX5_counts 104 = .ok (.iload 4, 2) := by decide +kernel
theorem dX5_counts_106 : decode cX5_counts 106 = .ok (.dup2, 1) := by decide +kernel
theorem dX5_counts_107 : decode cX5_counts 107 = .ok (.iaload, 1) := by decide +kernel
theorem dX5_counts_108 : decode cX5_counts 108 = .ok (.iload_n 3, 1) := by decide +kernel
theorem dX5_counts_109 : decode cX5_counts 109 = .ok (.isub, 1) := by decide +kernel
theorem dX5_counts_110 : decode cX5_counts 110 = .ok (.iastore, 1) := by decide +kernel
theorem dX5_counts_111 : decode cX5_counts 111 = .ok (.ldc 84, 2) := by decide +kernel
theorem dX5_counts_113 : decode cX5_counts 113 = .ok (.iload_n 2, 1) := by decide +kernel
theorem dX5_counts_114 : decode cX5_counts 114 = .ok (.aload_n 0, 1) := by decide +kernel
theorem dX5_counts_115 : decode cX5_counts 115 = .ok (.iload_n 1, 1) := by decide +kernel
theorem dX5_counts_116 : decode cX5_counts 116 = .ok (.iconst 1, 1) := by decide +kernel
theorem dX5_counts_117 : decode cX5_counts 117 = .ok (.iadd, 1) := by decide +kernel
theorem dX5_counts_118 : decode cX5_counts 118 = .ok (.invokevirtual 80, 3) := by decide +kernel
theorem dX5_counts_121 : decode cX5_counts 121 = .ok (.iadd, 1) := by decide +kernel
theorem dX5_counts_122 : decode cX5_counts 122 = .ok (.invokestatic 36, 3) := by decide +kernel
theorem dX5_counts_125 : decode cX5_counts 125 = .ok (.istore_n 2, 1) := by decide +kernel
theorem dX5_counts_126 : decode cX5_counts 126 = .ok (.aload_n 0, 1) := by decide +kernel
theorem dX5_counts_127 : decode cX5_counts 127 = .ok (.getfield 25, 3) := by decide +kernel
theorem dX5_counts_130 : decode cX5_counts 130 = .ok (.iload 4, 2) := by decide +kernel
theorem dX5_counts_132 : decode cX5_counts 132 = .ok (.dup2, 1) := by decide +kernel
theorem dX5_counts_133 : decode cX5_counts 133 = .ok (.iaload, 1) := by decide +kernel
theorem dX5_counts_134 : decode cX5_counts 134 = .ok (.iload_n 3, 1) := by decide +kernel
theorem dX5_counts_135 : decode cX5_counts 135 = .ok (.iadd, 1) := by decide +kernel
theorem dX5_counts_136 : decode cX5_counts 136 = .ok (.iastore, 1) := by decide +kernel
theorem dX5_counts_137 : decode cX5_counts 137 = .ok (.iinc 4 1, 3) := by decide +kernel
theorem dX5_counts_140 : decode cX5_counts 140 = .ok (.goto (-77), 3) := by decide +kernel
theorem dX5_counts_143 : decode cX5_counts 143 = .ok (.iload_n 2, 1) := by decide +kernel
theorem dX5_counts_144 : decode cX5_counts 144 = .ok (.ireturn, 1) := by decide +kernel
theorem dX5_finds_0 : decode cX5_finds 0 = .ok (.aload_n 0, 1) := by decide +kernel
theorem dX5_finds_1 : decode cX5_finds 1 = .ok (.aload_n 1, 1) := by decide +kernel
theorem dX5_finds_2 : decode cX5_finds 2 = .ok (.iconst 0, 1) := by decide +kernel
theorem dX5_finds_3 : decode cX5_finds 3 = .ok (.bipush 20, 2) := by decide +kernel
theorem dX5_finds_5 : decode cX5_finds 5 = .ok (.invokevirtual 85, 3) := by decide +kernel
theorem dX5_finds_8 : decode cX5_finds 8 = .ok (.aload_n 0, 1) := by decide +kernel
theorem dX5_finds_9 : decode cX5_finds 9 = .ok (.bipush 8, 2) := by decide +kernel
theorem dX5_finds_11 : decode cX5_finds 11 = .ok (.invokevirtual 89, 3) := by decide +kernel
theorem dX5_finds_14 : decode cX5_finds 14 = .ok (.ireturn, 1) := by decide +kernel
theorem dX5_all_0 : decode cX5_all 0 = .ok (.aload_n 0, 1) := by decide +kernel
theorem dX5_all_1 : decode cX5_all 1 = .ok (.aload_n 1, 1) := by decide +kernel
theorem dX5_all_2 : decode cX5_all 2 = .ok (.iconst 0, 1) := by decide +kernel
theorem dX5_all_3 : decode cX5_all 3 = .ok (.bipush 20, 2) := by decide +kernel
theorem dX5_all_5 : decode cX5_all 5 = .ok (.invokevirtual 85, 3) := by decide +kernel
theorem dX5_all_8 : decode cX5_all 8 = .ok (.aload_n 0, 1) := by decide +kernel
theorem dX5_all_9 : decode cX5_all 9 = .ok (.bipush 8, 2) := by decide +kernel
theorem dX5_all_11 : decode cX5_all 11 = .ok (.invokevirtual 49, 3) := by decide +kernel
theorem dX5_all_14 : decode cX5_all 14 = .ok (.ifCond .eq 11, 3) := by decide +kernel
theorem dX5_all_17 : decode cX5_all 17 = .ok (.aload_n 0, 1) := by decide +kernel
theorem dX5_all_18 : decode cX5_all 18 = .ok (.iconst 0, 1) := by decide +kernel
theorem dX5_all_19 : decode cX5_all 19 = .ok (.invokevirtual 80, 3) := by decide +kernel
theorem dX5_all_22 : decode cX5_all 22 = .ok (.goto 4, 3) := by decide +kernel
theorem dX5_all_25 : decode cX5_all 25 = .ok (.iconst 0, 1) := by decide +kernel
theorem dX5_all_26 : decode cX5_all 26 = .ok (.ireturn, 1) := by decide +kernel
theorem dX5_singerOf_0 : decode cX5_singerOf 0 = .ok (.aload_n 0, 1) := by decide +kernel
theorem dX5_singerOf_1 : decode cX5_singerOf 1 = .ok (.getfield 12, 3) := by decide +kernel
theorem dX5_singerOf_4 : decode cX5_singerOf 4 = .ok (.iload_n 1, 1) := by decide +kernel
theorem dX5_singerOf_5 : decode cX5_singerOf 5 = .ok (.invokevirtual 60, 3) := by decide +kernel
theorem dX5_singerOf_8 : decode cX5_singerOf 8 = .ok (.ifCond .eq 14, 3) := by decide +kernel
theorem dX5_singerOf_11 : decode cX5_singerOf 11 = .ok (.aload_n 0, 1) := by decide +kernel
theorem dX5_singerOf_12 : decode cX5_singerOf 12 = .ok (.getfield 29, 3) := by decide +kernel
theorem dX5_singerOf_15 : decode cX5_singerOf 15 = .ok (.iload_n 1, 1) := by decide +kernel
theorem dX5_singerOf_16 : decode cX5_singerOf 16 = .ok (.invokestatic 45, 3) := by decide +kernel
theorem dX5_singerOf_19 : decode cX5_singerOf 19 = .ok (.goto 4, 3) := by decide +kernel
theorem dX5_singerOf_22 : decode cX5_singerOf 22 = .ok (.iconst 5, 1) := by decide +kernel
theorem dX5_singerOf_23 : decode cX5_singerOf 23 = .ok (.ireturn, 1) := by decide +kernel
theorem dX5_barsOf_0 : decode cX5_barsOf 0 = .ok (.iconst 0, 1) := by decide +kernel
theorem dX5_barsOf_1 : decode cX5_barsOf 1 = .ok (.istore_n 2, 1) := by decide +kernel
theorem dX5_barsOf_2 : decode cX5_barsOf 2 = .ok (.iconst 0, 1) := by decide +kernel
theorem dX5_barsOf_3 : decode cX5_barsOf 3 = .ok (.istore_n 3, 1) := by decide +kernel
theorem dX5_barsOf_4 : decode cX5_barsOf 4 = .ok (.iload_n 3, 1) := by decide +kernel
theorem dX5_barsOf_5 : decode cX5_barsOf 5 = .ok (.aload_n 0, 1) := by decide +kernel
theorem dX5_barsOf_6 : decode cX5_barsOf 6 = .ok (.getfield 18, 3) := by decide +kernel
theorem dX5_barsOf_9 : decode cX5_barsOf 9 = .ok (.if_icmp .ge 24, 3) := by decide +kernel
theorem dX5_barsOf_12 : decode cX5_barsOf 12 = .ok (.aload_n 0, 1) := by decide +kernel
theorem dX5_barsOf_13 : decode cX5_barsOf 13 = .ok (.getfield 29, 3) := by decide +kernel
theorem dX5_barsOf_16 : decode cX5_barsOf 16 = .ok (.iload_n 3, 1) := by decide +kernel
theorem dX5_barsOf_17 : decode cX5_barsOf 17 = .ok (.invokestatic 45, 3) := by decide +kernel
theorem dX5_barsOf_20 : decode cX5_barsOf 20 = .ok (.iload_n 1, 1) := by decide +kernel
theorem dX5_barsOf_21 : decode cX5_barsOf 21 = .ok (.if_icmp .ne 6, 3) := by decide +kernel
theorem dX5_barsOf_24 : decode cX5_barsOf 24 = .ok (.iinc 2 1, 3) := by decide +kernel
theorem dX5_barsOf_27 : decode cX5_barsOf 27 = .ok (.iinc 3 1, 3) := by decide +kernel
theorem dX5_barsOf_30 : decode cX5_barsOf 30 = .ok (.goto (-26), 3) := by decide +kernel
theorem dX5_barsOf_33 : decode cX5_barsOf 33 = .ok (.iload_n 2, 1) := by decide +kernel
theorem dX5_barsOf_34 : decode cX5_barsOf 34 = .ok (.ireturn, 1) := by decide +kernel
theorem dX5_breathOf_0 : decode cX5_breathOf 0 = .ok (.aload_n 0, 1) := by decide +kernel
theorem dX5_breathOf_1 : decode cX5_breathOf 1 = .ok (.getfield 25, 3) := by decide +kernel
theorem dX5_breathOf_4 : decode cX5_breathOf 4 = .ok (.iload_n 1, 1) := by decide +kernel
theorem dX5_breathOf_5 : decode cX5_breathOf 5 = .ok (.invokestatic 45, 3) := by decide +kernel
theorem dX5_breathOf_8 : decode cX5_breathOf 8 = .ok (.ireturn, 1) := by decide +kernel
theorem dX5_coldDreams_0 : decode cX5_coldDreams 0 = .ok (.iconst 0, 1) := by decide +kernel
theorem dX5_coldDreams_1 : decode cX5_coldDreams 1 = .ok (.istore_n 2, 1) := by decide +kernel
theorem dX5_coldDreams_2 : decode cX5_coldDreams 2 = .ok (.iconst 0, 1) := by decide +kernel
theorem dX5_coldDreams_3 : decode cX5_coldDreams 3 = .ok (.istore_n 3, 1) := by decide +kernel
theorem dX5_coldDreams_4 : decode cX5_coldDreams 4 = .ok (.iload_n 3, 1) := by decide +kernel
theorem dX5_coldDreams_5 : decode cX5_coldDreams 5 = .ok (.aload_n 0, 1) := by decide +kernel
theorem dX5_coldDreams_6 : decode cX5_coldDreams 6 = .ok (.getfield 18, 3) := by decide +kernel
theorem dX5_coldDreams_9 : decode cX5_coldDreams 9 = .ok (.if_icmp .ge 71, 3) := by decide +kernel
theorem dX5_coldDreams_12 : decode cX5_coldDreams 12 = .ok (.aload_n 0, 1) := by decide +kernel
theorem dX5_coldDreams_13 : decode cX5_coldDreams 13 = .ok (.getfield 12, 3) := by decide +kernel
theorem dX5_coldDreams_16 : decode cX5_coldDreams 16 = .ok (.iload_n 3, 1) := by decide +kernel
theorem dX5_coldDreams_17 : decode cX5_coldDreams 17 = .ok (.invokevirtual 60, 3) := by decide +kernel
theorem dX5_coldDreams_20 : decode cX5_coldDreams 20 = .ok (.ifCond .eq 54, 3) := by decide +kernel
theorem dX5_coldDreams_23 : decode cX5_coldDreams 23 = .ok (.aload_n 0, 1) := by decide +kernel
theorem dX5_coldDreams_24 : decode cX5_coldDreams 24 = .ok (.getfield 29, 3) := by decide +kernel
theorem dX5_coldDreams_27 : decode cX5_coldDreams 27 = .ok (.iload_n 3, 1) := by decide +kernel
theorem dX5_coldDreams_28 : decode cX5_coldDreams 28 = .ok (.invokestatic 45, 3) := by decide +kernel
theorem dX5_coldDreams_31 : decode cX5_coldDreams 31 = .ok (.iload_n 1, 1) := by decide +kernel
theorem dX5_coldDreams_32 : decode cX5_coldDreams 32 = .ok (.if_icmp .ne 42, 3) := by decide +kernel
theorem dX5_coldDreams_35 : decode cX5_coldDreams 35 = .ok (.aload_n 0, 1) := by decide +kernel
theorem dX5_coldDreams_36 : decode cX5_coldDreams 36 = .ok (.getfield 12, 3) := by decide +kernel
theorem dX5_coldDreams_39 : decode cX5_coldDreams 39 = .ok (.iload_n 1, 1) := by decide +kernel
theorem dX5_coldDreams_40 : decode cX5_coldDreams 40 = .ok (.aload_n 0, 1) := by decide +kernel
theorem dX5_coldDreams_41 : decode cX5_coldDreams 41 = .ok (.getfield 12, 3) := by decide +kernel
theorem dX5_coldDreams_44 : decode cX5_coldDreams 44 = .ok (.getfield 70, 3) := by decide +kernel
theorem dX5_coldDreams_47 : decode cX5_coldDreams 47 = .ok (.iload_n 3, 1) := by decide +kernel
theorem dX5_coldDreams_48 : decode cX5_coldDreams 48 = .ok (.invokestatic 45, 3) := by decide +kernel
theorem dX5_coldDreams_51 : decode cX5_coldDreams 51 = .ok (.iconst 1, 1) := by decide +kernel
theorem dX5_coldDreams_52 : decode cX5_coldDreams 52 = .ok (.invokevirtual 73, 3) := by decide +kernel
theorem dX5_coldDreams_55 : decode cX5_coldDreams 55 = .ok (.ifCond .ne 19, 3) := by decide +kernel
theorem dX5_coldDreams_58 : decode cX5_coldDreams 58 = .ok (.iload_n 2, 1) := by decide +kernel
theorem dX5_coldDreams_59 : decode cX5_coldDreams 59 = .ok (.iconst 1, 1) := by decide +kernel
theorem dX5_coldDreams_60 : decode cX5_coldDreams 60 = .ok (.aload_n 0, 1) := by decide +kernel
theorem dX5_coldDreams_61 : decode cX5_coldDreams 61 = .ok (.getfield 12, 3) := by decide +kernel
theorem dX5_coldDreams_64 : decode cX5_coldDreams 64 = .ok (.getfield 92, 3) := by decide +kernel
theorem dX5_coldDreams_67 : decode cX5_coldDreams 67 = .ok (.iload_n 3, 1) := by decide +kernel
theorem dX5_coldDreams_68 : decode cX5_coldDreams 68 = .ok (.invokestatic 45, 3) := by decide +kernel
theorem dX5_coldDreams_71 : decode cX5_coldDreams 71 = .ok (.ishl, 1) := by decide +kernel
theorem dX5_coldDreams_72 : decode cX5_coldDreams 72 = .ok (.ior, 1) := by decide +kernel
theorem dX5_coldDreams_73 : decode cX5_coldDreams 73 = .ok (.istore_n 2, 1) := by decide +kernel
theorem dX5_coldDreams_74 : decode cX5_coldDreams 74 = .ok (.iinc 3 1, 3) := by decide +kernel
theorem dX5_coldDreams_77 : decode cX5_coldDreams 77 = .ok (.goto (-73), 3) := by decide +kernel
theorem dX5_coldDreams_80 : decode cX5_coldDreams 80 = .ok (.iload_n 2, 1) := by decide +kernel
theorem dX5_coldDreams_81 : decode cX5_coldDreams 81 = .ok (.ireturn, 1) := by decide +kernel
theorem dX5_fewest_0 : decode cX5_fewest 0 = .ok (.iconst 0, 1) := by decide +kernel
theorem dX5_fewest_1 : decode cX5_fewest 1 = .ok (.istore_n 2, 1) := by decide +kernel
theorem dX5_fewest_2 : decode cX5_fewest 2 = .ok (.iload_n 2, 1) := by decide +kernel
theorem dX5_fewest_3 : decode cX5_fewest 3 = .ok (.aload_n 1, 1) := by decide +kernel
theorem dX5_fewest_4 : decode cX5_fewest 4 = .ok (.getfield 35, 3) := by decide +kernel
theorem dX5_fewest_7 : decode cX5_fewest 7 = .ok (.if_icmp .gt 57, 3) := by decide +kernel
theorem dX5_fewest_10 : decode cX5_fewest 10 = .ok (.iconst 0, 1) := by decide +kernel
theorem dX5_fewest_11 : decode cX5_fewest 11 = .ok (.istore_n 3, 1) := by decide +kernel
theorem dX5_fewest_12 : decode cX5_fewest 12 = .ok (.iload_n 3, 1) := by decide +kernel
theorem dX5_fewest_13 : decode cX5_fewest 13 = .ok (.aload_n 1, 1) := by decide +kernel
theorem dX5_fewest_14 : decode cX5_fewest 14 = .ok (.invokevirtual 95, 3) := by decide +kernel
theorem dX5_fewest_17 : decode cX5_fewest 17 = .ok (.if_icmp .gt 41, 3) := by decide +kernel
theorem dX5_fewest_20 : decode cX5_fewest 20 = .ok (.iload_n 3, 1) := by decide +kernel
theorem dX5_fewest_21 : decode cX5_fewest 21 = .ok (.invokestatic 99, 3) := by decide +kernel
theorem dX5_fewest_24 : decode cX5_fewest 24 = .ok (.iload_n 2, 1) := by decide +kernel
theorem dX5_fewest_25 : decode cX5_fewest 25 = .ok (.if_icmp .ne 27, 3) := by decide +kernel
theorem dX5_fewest_28 : decode cX5_fewest 28 = .ok (.aload_n 0, 1) := by decide +kernel
theorem dX5_fewest_29 : decode cX5_fewest 29 = .ok (.aload_n 1, 1) := by decide +kernel
theorem dX5_fewest_30 : decode cX5_fewest 30 = .ok (.iconst 0, 1) := by decide +kernel
theorem dX5_fewest_31 : decode cX5_fewest 31 = .ok (.bipush 20, 2) := by decide +kernel
theorem dX5_fewest_33 : decode cX5_fewest 33 = .ok (.invokevirtual 85, 3) := by decide +kernel
theorem dX5_fewest_36 : decode cX5_fewest 36 = .ok (.aload_n 0, 1) := by decide +kernel
theorem dX5_fewest_37 : decode cX5_fewest 37 = .ok (.iload_n 3, 1) := by decide +kernel
theorem dX5_fewest_38 : decode cX5_fewest 38 = .ok (.invokevirtual 104, 3) := by decide +kernel
theorem dX5_fewest_41 : decode cX5_fewest 41 = .ok (.aload_n 0, 1) := by decide +kernel
theorem dX5_fewest_42 : decode cX5_fewest 42 = .ok (.bipush 8, 2) := by decide +kernel
theorem dX5_fewest_44 : decode cX5_fewest 44 = .ok (.invokevirtual 89, 3) := by decide +kernel
theorem dX5_fewest_47 : decode cX5_fewest 47 = .ok (.ifCond .eq 5, 3) := by decide +kernel
theorem dX5_fewest_50 : decode cX5_fewest 50 = .ok (.iload_n 3, 1) := by decide +kernel
theorem dX5_fewest_51 : decode cX5_fewest 51 = .ok (.ireturn, 1) := by decide +kernel
theorem dX5_fewest_52 : decode cX5_fewest 52 = .ok (.iinc 3 1, 3) := by decide +kernel
theorem dX5_fewest_55 : decode cX5_fewest 55 = .ok (.goto (-43), 3) := by decide +kernel
theorem dX5_fewest_58 : decode cX5_fewest 58 = .ok (.iinc 2 1, 3) := by decide +kernel
theorem dX5_fewest_61 : decode cX5_fewest 61 = .ok (.goto (-59), 3) := by decide +kernel
theorem dX5_fewest_64 : decode cX5_fewest 64 = .ok (.iconst (-1), 1) := by decide +kernel
theorem dX5_fewest_65 : decode cX5_fewest 65 = .ok (.ireturn, 1) := by decide +kernel
theorem dX5_farWith_0 : decode cX5_farWith 0 = .ok (.aload_n 1, 1) := by decide +kernel
theorem dX5_farWith_1 : decode cX5_farWith 1 = .ok (.getfield 56, 3) := by decide +kernel
theorem dX5_farWith_4 : decode cX5_farWith 4 = .ok (.istore_n 3, 1) := by decide +kernel
theorem dX5_farWith_5 : decode cX5_farWith 5 = .ok (.iload_n 3, 1) := by decide +kernel
theorem dX5_farWith_6 : decode cX5_farWith 6 = .ok (.ifCond .le 29, 3) := by decide +kernel
theorem dX5_farWith_9 : decode cX5_farWith 9 = .ok (.aload_n 0, 1) := by decide +kernel
theorem dX5_farWith_10 : decode cX5_farWith 10 = .ok (.aload_n 1, 1) := by decide +kernel
theorem dX5_farWith_11 : decode cX5_farWith 11 = .ok (.iload_n 2, 1) := by decide +kernel
theorem dX5_farWith_12 : decode cX5_farWith 12 = .ok (.bipush 20, 2) := by decide +kernel
theorem dX5_farWith_14 : decode cX5_farWith 14 = .ok (.iload_n 2, 1) := by decide +kernel
theorem dX5_farWith_15 : decode cX5_farWith 15 = .ok (.iadd, 1) := by decide +kernel
theorem dX5_farWith_16 : decode cX5_farWith 16 = .ok (.invokevirtual 85, 3) := by decide +kernel
theorem dX5_farWith_19 : decode cX5_farWith 19 = .ok (.aload_n 0, 1) := by decide +kernel
theorem dX5_farWith_20 : decode cX5_farWith 20 = .ok (.iload_n 3, 1) := by decide +kernel
theorem dX5_farWith_21 : decode cX5_farWith 21 = .ok (.invokevirtual 89, 3) := by decide +kernel
theorem dX5_farWith_24 : decode cX5_farWith 24 = .ok (.ifCond .eq 5, 3) := by decide +kernel
theorem dX5_farWith_27 : decode cX5_farWith 27 = .ok (.iload_n 3, 1) := by decide +kernel
theorem dX5_farWith_28 : decode cX5_farWith 28 = .ok (.ireturn, 1) := by decide +kernel
theorem dX5_farWith_29 : decode cX5_farWith 29 = .ok (.iinc 3 (-1), 3) := by decide +kernel
theorem dX5_farWith_32 : decode cX5_farWith 32 = .ok (.goto (-27), 3) := by decide +kernel
theorem dX5_farWith_35 : decode cX5_farWith 35 = .ok (.iconst 0, 1) := by decide +kernel
theorem dX5_farWith_36 : decode cX5_farWith 36 = .ok (.ireturn, 1) := by decide +kernel
theorem dX5_spares_0 : decode cX5_spares 0 = .ok (.iconst 0, 1) := by decide +kernel
theorem dX5_spares_1 : decode cX5_spares 1 = .ok (.istore_n 2, 1) := by decide +kernel
theorem dX5_spares_2 : decode cX5_spares 2 = .ok (.iconst 0, 1) := by decide +kernel
theorem dX5_spares_3 : decode cX5_spares 3 = .ok (.istore_n 3, 1) := by decide +kernel
theorem dX5_spares_4 : decode cX5_spares 4 = .ok (.iload_n 3, 1) := by decide +kernel
theorem dX5_spares_5 : decode cX5_spares 5 = .ok (.aload_n 1, 1) := by decide +kernel
theorem dX5_spares_6 : decode cX5_spares 6 = .ok (.getfield 35, 3) := by decide +kernel
theorem dX5_spares_9 : decode cX5_spares 9 = .ok (.if_icmp .ge 41, 3) := by decide +kernel
theorem dX5_spares_12 : decode cX5_spares 12 = .ok (.aload_n 0, 1) := by decide +kernel
theorem dX5_spares_13 : decode cX5_spares 13 = .ok (.aload_n 1, 1) := by decide +kernel
theorem dX5_spares_14 : decode cX5_spares 14 = .ok (.iconst 0, 1) := by decide +kernel
theorem dX5_spares_15 : decode cX5_spares 15 = .ok (.bipush 20, 2) := by decide +kernel
theorem dX5_spares_17 : decode cX5_spares 17 = .ok (.invokevirtual 85, 3) := by decide +kernel
theorem dX5_spares_20 : decode cX5_spares 20 = .ok (.aload_n 0, 1) := by decide +kernel
theorem dX5_spares_21 : decode cX5_spares 21 = .ok (.iconst 1, 1) := by decide +kernel
theorem dX5_spares_22 : decode cX5_spares 22 = .ok (.iload_n 3, 1) := by decide +kernel
theorem dX5_spares_23 : decode cX5_spares 23 = .ok (.ishl, 1) := by decide +kernel
theorem dX5_spares_24 : decode cX5_spares 24 = .ok (.iconst (-1), 1) := by decide +kernel
theorem dX5_spares_25 : decode cX5_spares 25 = .ok (.ixor, 1) := by decide +kernel
theorem dX5_spares_26 : decode cX5_spares 26 = .ok (.invokevirtual 104, 3) := by decide +kernel
theorem dX5_spares_29 : decode cX5_spares 29 = .ok (.aload_n 0, 1) := by decide +kernel
theorem dX5_spares_30 : decode cX5_spares 30 = .ok (.bipush 8, 2) := by decide +kernel
theorem dX5_spares_32 : decode cX5_spares 32 = .ok (.invokevirtual 89, 3) := by decide +kernel
theorem dX5_spares_35 : decode cX5_spares 35 = .ok (.ifCond .eq 9, 3) := by decide +kernel
theorem dX5_spares_38 : decode cX5_spares 38 = .ok (.iload_n 2, 1) := by decide +kernel
theorem dX5_spares_39 : decode cX5_spares 39 = .ok (.iconst 1, 1) := by decide +kernel
theorem dX5_spares_40 : decode cX5_spares 40 = .ok (.iload_n 3, 1) := by decide +kernel
theorem dX5_spares_41 : decode cX5_spares 41 = .ok (.ishl, 1) := by decide +kernel
theorem dX5_spares_42 : decode cX5_spares 42 = .ok (.ior, 1) := by decide +kernel
theorem dX5_spares_43 : decode cX5_spares 43 = .ok (.istore_n 2, 1) := by decide +kernel
theorem dX5_spares_44 : decode cX5_spares 44 = .ok (.iinc 3 1, 3) := by decide +kernel
theorem dX5_spares_47 : decode cX5_spares 47 = .ok (.goto (-43), 3) := by decide +kernel
theorem dX5_spares_50 : decode cX5_spares 50 = .ok (.iload_n 2, 1) := by decide +kernel
theorem dX5_spares_51 : decode cX5_spares 51 = .ok (.ireturn, 1) := by decide +kernel
theorem dX5_cure_0 : decode cX5_cure 0 = .ok (.iconst 0, 1) := by decide +kernel
theorem dX5_cure_1 : decode cX5_cure 1 = .ok (.istore_n 2, 1) := by decide +kernel
theorem dX5_cure_2 : decode cX5_cure 2 = .ok (.iload_n 2, 1) := by decide +kernel
theorem dX5_cure_3 : decode cX5_cure 3 = .ok (.bipush 20, 2) := by decide +kernel
theorem dX5_cure_5 : decode cX5_cure 5 = .ok (.if_icmp .gt 30, 3) := by decide +kernel
theorem dX5_cure_8 : decode cX5_cure 8 = .ok (.aload_n 0, 1) := by decide +kernel
theorem dX5_cure_9 : decode cX5_cure 9 = .ok (.aload_n 1, 1) := by decide +kernel
theorem dX5_cure_10 : decode cX5_cure 10 = .ok (.iload_n 2, 1) := by decide +kernel
theorem dX5_cure_11 : decode cX5_cure 11 = .ok (.bipush 20, 2) := by decide +kernel
theorem dX5_cure_13 : decode cX5_cure 13 = .ok (.iload_n 2, 1) := by decide +kernel
theorem dX5_cure_14 : decode cX5_cure 14 = .ok (.iadd, 1) := by decide +kernel
theorem dX5_cure_15 : decode cX5_cure 15 = .ok (.invokevirtual 85, 3) := by decide +kernel
theorem dX5_cure_18 : decode cX5_cure 18 = .ok (.aload_n 0, 1) := by decide +kernel
theorem dX5_cure_19 : decode cX5_cure 19 = .ok (.bipush 8, 2) := by decide +kernel
theorem dX5_cure_21 : decode cX5_cure 21 = .ok (.invokevirtual 89, 3) := by decide +kernel
theorem dX5_cure_24 : decode cX5_cure 24 = .ok (.ifCond .eq 5, 3) := by decide +kernel
theorem dX5_cure_27 : decode cX5_cure 27 = .ok (.iload_n 2, 1) := by decide +kernel
theorem dX5_cure_28 : decode cX5_cure 28 = .ok (.ireturn, 1) := by decide +kernel
theorem dX5_cure_29 : decode cX5_cure 29 = .ok (.iinc 2 1, 3) := by decide +kernel
theorem dX5_cure_32 : decode cX5_cure 32 = .ok (.goto (-30), 3) := by decide +kernel
theorem dX5_cure_35 : decode cX5_cure 35 = .ok (.iconst (-1), 1) := by decide +kernel
theorem dX5_cure_36 : decode cX5_cure 36 = .ok (.ireturn, 1) := by decide +kernel
theorem dX5_easiest_0 : decode cX5_easiest 0 = .ok (.iconst 0, 1) := by decide +kernel
theorem dX5_easiest_1 : decode cX5_easiest 1 = .ok (.istore_n 2, 1) := by decide +kernel
theorem dX5_easiest_2 : decode cX5_easiest 2 = .ok (.iload_n 2, 1) := by decide +kernel
theorem dX5_easiest_3 : decode cX5_easiest 3 = .ok (.bipush 20, 2) := by decide +kernel
theorem dX5_easiest_5 : decode cX5_easiest 5 = .ok (.if_icmp .gt 27, 3) := by decide +kernel
theorem dX5_easiest_8 : decode cX5_easiest 8 = .ok (.aload_n 0, 1) := by decide +kernel
theorem dX5_easiest_9 : decode cX5_easiest 9 = .ok (.aload_n 1, 1) := by decide +kernel
theorem dX5_easiest_10 : decode cX5_easiest 10 = .ok (.iconst 0, 1) := by decide +kernel
theorem dX5_easiest_11 : decode cX5_easiest 11 = .ok (.iload_n 2, 1) := by decide +kernel
theorem dX5_easiest_12 : decode cX5_easiest 12 = .ok (.invokevirtual 85, 3) := by decide +kernel
theorem dX5_easiest_15 : decode cX5_easiest 15 = .ok (.aload_n 0, 1) := by decide +kernel
theorem dX5_easiest_16 : decode cX5_easiest 16 = .ok (.bipush 8, 2) := by decide +kernel
theorem dX5_easiest_18 : decode cX5_easiest 18 = .ok (.invokevirtual 89, 3) := by decide +kernel
theorem dX5_easiest_21 : decode cX5_easiest 21 = .ok (.ifCond .eq 5, 3) := by decide +kernel
theorem dX5_easiest_24 : decode cX5_easiest 24 = .ok (.iload_n 2, 1) := by decide +kernel
theorem dX5_easiest_25 : decode cX5_easiest 25 = .ok (.ireturn, 1) := by decide +kernel
theorem dX5_easiest_26 : decode cX5_easiest 26 = .ok (.iinc 2 1, 3) := by decide +kernel
theorem dX5_easiest_29 : decode cX5_easiest 29 = .ok (.goto (-27), 3) := by decide +kernel
theorem dX5_easiest_32 : decode cX5_easiest 32 = .ok (.iconst (-1), 1) := by decide +kernel
theorem dX5_easiest_33 : decode cX5_easiest 33 = .ok (.ireturn, 1) := by decide +kernel
theorem dX5_hired_0 : decode cX5_hired 0 = .ok (.iconst 0, 1) := by decide +kernel
theorem dX5_hired_1 : decode cX5_hired 1 = .ok (.istore_n 2, 1) := by decide +kernel
theorem dX5_hired_2 : decode cX5_hired 2 = .ok (.iload_n 2, 1) := by decide +kernel
theorem dX5_hired_3 : decode cX5_hired 3 = .ok (.bipush 20, 2) := by decide +kernel
theorem dX5_hired_5 : decode cX5_hired 5 = .ok (.if_icmp .gt 33, 3) := by decide +kernel
theorem dX5_hired_8 : decode cX5_hired 8 = .ok (.aload_n 0, 1) := by decide +kernel
theorem dX5_hired_9 : decode cX5_hired 9 = .ok (.aload_n 1, 1) := by decide +kernel
theorem dX5_hired_10 : decode cX5_hired 10 = .ok (.iconst 0, 1) := by decide +kernel
theorem dX5_hired_11 : decode cX5_hired 11 = .ok (.bipush 20, 2) := by decide +kernel
theorem dX5_hired_13 : decode cX5_hired 13 = .ok (.invokevirtual 85, 3) := by decide +kernel
theorem dX5_hired_16 : decode cX5_hired 16 = .ok (.aload_n 0, 1) := by decide +kernel
theorem dX5_hired_17 : decode cX5_hired 17 = .ok (.iload_n 2, 1) := by decide +kernel
theorem dX5_hired_18 : decode cX5_hired 18 = .ok (.invokevirtual 108, 3) := by decide +kernel
theorem dX5_hired_21 : decode cX5_hired 21 = .ok (.aload_n 0, 1) := by decide +kernel
theorem dX5_hired_22 : decode cX5_hired 22 = .ok (.bipush 8, 2) := by decide +kernel
theorem dX5_hired_24 : decode cX5_hired 24 = .ok (.invokevirtual 89, 3) := by decide +kernel
theorem dX5_hired_27 : decode cX5_hired 27 = .ok (.ifCond .eq 5, 3) := by decide +kernel
theorem dX5_hired_30 : decode cX5_hired 30 = .ok (.iload_n 2, 1) := by decide +kernel
theorem dX5_hired_31 : decode cX5_hired 31 = .ok (.ireturn, 1) := by decide +kernel
theorem dX5_hired_32 : decode cX5_hired 32 = .ok (.iinc 2 1, 3) := by decide +kernel
theorem dX5_hired_35 : decode cX5_hired 35 = .ok (.goto (-33), 3) := by decide +kernel
theorem dX5_hired_38 : decode cX5_hired 38 = .ok (.iconst (-1), 1) := by decide +kernel
theorem dX5_hired_39 : decode cX5_hired 39 = .ok (.ireturn, 1) := by decide +kernel
theorem dX2_agree_0 : decode cX2_agree 0 = .ok (.iconst 0, 1) := by decide +kernel
theorem dX2_agree_1 : decode cX2_agree 1 = .ok (.istore_n 2, 1) := by decide +kernel
theorem dX2_agree_2 : decode cX2_agree 2 = .ok (.iload_n 2, 1) := by decide +kernel
theorem dX2_agree_3 : decode cX2_agree 3 = .ok (.aload_n 1, 1) := by decide +kernel
theorem dX2_agree_4 : decode cX2_agree 4 = .ok (.getfield 35, 3) := by decide +kernel
theorem dX2_agree_7 : decode cX2_agree 7 = .ok (.if_icmp .ge 56, 3) := by decide +kernel
theorem dX2_agree_10 : decode cX2_agree 10 = .ok (.aload_n 1, 1) := by decide +kernel
theorem dX2_agree_11 : decode cX2_agree 11 = .ok (.getfield 40, 3) := by decide +kernel
theorem dX2_agree_14 : decode cX2_agree 14 = .ok (.iload_n 2, 1) := by decide +kernel
theorem dX2_agree_15 : decode cX2_agree 15 = .ok (.invokestatic 43, 3) := by decide +kernel
theorem dX2_agree_18 : decode cX2_agree 18 = .ok (.ifCond .eq 7, 3) := by decide +kernel
theorem dX2_agree_21 : decode cX2_agree 21 = .ok (.iconst 1, 1) := by decide +kernel
theorem dX2_agree_22 : decode cX2_agree 22 = .ok (.goto 4, 3) := by decide +kernel
theorem dX2_agree_25 : decode cX2_agree 25 = .ok (.iconst 0, 1) := by decide +kernel
theorem dX2_agree_26 : decode cX2_agree 26 = .ok (.istore_n 3, 1) := by decide +kernel
theorem dX2_agree_27 : decode cX2_agree 27 = .ok (.iload_n 0, 1) := by decide +kernel
theorem dX2_agree_28 : decode cX2_agree 28 = .ok (.aload_n 1, 1) := by decide +kernel
theorem dX2_agree_29 : decode cX2_agree 29 = .ok (.getfield 47, 3) := by decide +kernel
theorem dX2_agree_32 : decode cX2_agree 32 = .ok (.iload_n 2, 1) := by decide +kernel
theorem dX2_agree_33 : decode cX2_agree 33 = .ok (.invokestatic 43, 3) := by decide +kernel
theorem dX2_agree_36 : decode cX2_agree 36 = .ok (.ishr, 1) := by decide +kernel
theorem dX2_agree_37 : decode cX2_agree 37 = .ok (.iconst 1, 1) := by decide +kernel
theorem dX2_agree_38 : decode cX2_agree 38 = .ok (.iand, 1) := by decide +kernel
theorem dX2_agree_39 : decode cX2_agree 39 = .ok (.ifCond .ne 7, 3) := by decide +kernel
theorem dX2_agree_42 : decode cX2_agree 42 = .ok (.iconst 1, 1) := by decide +kernel
theorem dX2_agree_43 : decode cX2_agree 43 = .ok (.goto 4, 3) := by decide +kernel
theorem dX2_agree_46 : decode cX2_agree 46 = .ok (.iconst 0, 1) := by decide +kernel
theorem dX2_agree_47 : decode cX2_agree 47 = .ok (.istore 4, 2) := by decide +kernel
theorem dX2_agree_49 : decode cX2_agree 49 = .ok (.iload_n 3, 1) := by decide +kernel
theorem dX2_agree_50 : decode cX2_agree 50 = .ok (.iload 4, 2) := by decide +kernel
theorem dX2_agree_52 : decode cX2_agree 52 = .ok (.if_icmp .eq 5, 3) := by decide +kernel
theorem dX2_agree_55 : decode cX2_agree 55 = .ok (.iconst 0, 1) := by decide +kernel
theorem dX2_agree_56 : decode cX2_agree 56 = .ok (.ireturn, 1) := by decide +kernel
theorem dX2_agree_57 : decode cX2_agree 57 = .ok (.iinc 2 1, 3) := by decide +kernel
theorem dX2_agree_60 : decode cX2_agree 60 = .ok (.goto (-58), 3) := by decide +kernel
theorem dX2_agree_63 : decode cX2_agree 63 = .ok (.iconst 1, 1) := by decide +kernel
theorem dX2_agree_64 : decode cX2_agree 64 = .ok (.ireturn, 1) := by decide +kernel
theorem dX2_judge_0 : decode cX2_judge 0 = .ok (.aload_n 0, 1) := by decide +kernel
theorem dX2_judge_1 : decode cX2_judge 1 = .ok (.iconst 0, 1) := by decide +kernel
theorem dX2_judge_2 : decode cX2_judge 2 = .ok (.putfield 15, 3) := by decide +kernel
theorem dX2_judge_5 : decode cX2_judge 5 = .ok (.iconst 0, 1) := by decide +kernel
theorem dX2_judge_6 : decode cX2_judge 6 = .ok (.istore 4, 2) := by decide +kernel
theorem dX2_judge_8 : decode cX2_judge 8 = .ok (.iload 4, 2) := by decide +kernel
theorem dX2_judge_10 : decode cX2_judge 10 = .ok (.iconst 5, 1) := by decide +kernel
theorem dX2_judge_11 : decode cX2_judge 11 = .ok (.if_icmp .gt 84, 3) := by decide +kernel
theorem dX2_judge_14 : decode cX2_judge 14 = .ok (.iload 4, 2) := by decide +kernel
theorem dX2_judge_16 : decode cX2_judge 16 = .ok (.aload_n 0, 1) := by decide +kernel
theorem dX2_judge_17 : decode cX2_judge 17 = .ok (.getfield 9, 3) := by decide +kernel
theorem dX2_judge_20 : decode cX2_judge 20 = .ok (.arraylength, 1) := by decide +kernel
theorem dX2_judge_21 : decode cX2_judge 21 = .ok (.if_icmp .ge 74, 3) := by decide +kernel
theorem dX2_judge_24 : decode cX2_judge 24 = .ok (.aload_n 0, 1) := by decide +kernel
theorem dX2_judge_25 : decode cX2_judge 25 = .ok (.getfield 9, 3) := by decide +kernel
theorem dX2_judge_28 : decode cX2_judge 28 = .ok (.iload 4, 2) := by decide +kernel
theorem dX2_judge_30 : decode cX2_judge 30 = .ok (.iload 4, 2) := by decide +kernel
theorem dX2_judge_32 : decode cX2_judge 32 = .ok (.iconst 5, 1) := by decide +kernel
theorem dX2_judge_33 : decode cX2_judge 33 = .ok (.if_icmp .ne 7, 3) := by decide +kernel
theorem dX2_judge_36 : decode cX2_judge 36 = .ok (.iconst 0, 1) := by decide +kernel
theorem dX2_judge_37 : decode cX2_judge 37 = .ok (.goto 9, 3) := by decide +kernel
theorem dX2_judge_40 : decode cX2_judge 40 = .ok (.aload_n 3, 1) := by decide +kernel
theorem dX2_judge_41 : decode cX2_judge 41 = .ok (.iload 4, 2) := by decide +kernel
theorem dX2_judge_43 : decode cX2_judge 43 = .ok (.invokevirtual 19, 3) := by decide +kernel
theorem dX2_judge_46 : decode cX2_judge 46 = .ok (.iastore, 1) := by decide +kernel
theorem dX2_judge_47 : decode cX2_judge 47 = .ok (.iload 4, 2) := by decide +kernel
theorem dX2_judge_49 : decode cX2_judge 49 = .ok (.iconst 5, 1) := by decide +kernel
theorem dX2_judge_50 : decode cX2_judge 50 = .ok (.if_icmp .eq 12, 3) := by decide +kernel
theorem dX2_judge_53 : decode cX2_judge 53 = .ok (.aload_n 1, 1) := by decide +kernel
theorem dX2_judge_54 : decode cX2_judge 54 = .ok (.iload 4, 2) := by decide +kernel
theorem dX2_judge_56 : decode cX2_judge 56 = .ok (.invokevirtual 25, 3) := by decide +kernel
theorem dX2_judge_59 : decode cX2_judge 59 = .ok (.ifCond .eq 30, 3) := by decide +kernel
theorem dX2_judge_62 : decode cX2_judge 62 = .ok (.aload_n 0, 1) := by decide +kernel
theorem dX2_judge_63 : decode cX2_judge 63 = .ok (.getfield 9, 3) := by decide +kernel
theorem dX2_judge_66 : decode cX2_judge 66 = .ok (.iload 4, 2) := by decide +kernel
theorem dX2_judge_68 : decode cX2_judge 68 = .ok (.iaload, 1) := by decide +kernel
theorem dX2_judge_69 : decode cX2_judge 69 = .ok (.aload_n 2, 1) := by decide +kernel
theorem dX2_judge_70 : decode cX2_judge 70 = .ok (.invokestatic 31, 3) := by decide +kernel
theorem dX2_judge_73 : decode cX2_judge 73 = .ok (.ifCond .eq 16, 3) := by decide +kernel
theorem dX2_judge_76 : decode cX2_judge 76 = .ok (.aload_n 0, 1) := by decide +kernel
theorem dX2_judge_77 : decode cX2_judge 77 = .ok (.dup, 1) := by decide +kernel
theorem dX2_judge_78 : decode cX2_judge 78 = .ok (.getfield 15, 3) := by decide +kernel
theorem dX2_judge_81 : decode cX2_judge 81 = .ok (.iconst 1, 1) := by decide +kernel
theorem dX2_judge_82 : decode cX2_judge 82 = .ok (.iload 4, 2) := by decide +kernel
theorem dX2_judge_84 : decode cX2_judge 84 = .ok (.ishl, 1) := by decide +kernel
theorem dX2_judge_85 : decode cX2_judge 85 = .ok (.ior, 1) := by decide +kernel
theorem dX2_judge_86 : decode cX2_judge 86 = .ok (.putfield 15, 3) := by decide +kernel
theorem dX2_judge_89 : decode cX2_judge 89 = .ok (.iinc 4 1, 3) := by decide +kernel
theorem dX2_judge_92 : decode cX2_judge 92 = .ok (.goto (-84), 3) := by decide +kernel
theorem dX2_judge_95 : decode cX2_judge 95 = .ok (.return_, 1) := by decide +kernel
theorem dX2_leftAtWorst_0 : decode cX2_leftAtWorst 0 = .ok (.iconst 0, 1) := by decide +kernel
theorem dX2_leftAtWorst_1 : decode cX2_leftAtWorst 1 = .ok (.istore_n 2, 1) := by decide +kernel
theorem dX2_leftAtWorst_2 : decode cX2_leftAtWorst 2 = .ok (.iconst 0, 1) := by decide +kernel
theorem dX2_leftAtWorst_3 : decode cX2_leftAtWorst 3 = .ok (.istore_n 3, 1) := by decide +kernel
theorem dX2_leftAtWorst_4 : decode cX2_leftAtWorst 4 = .ok (.iconst 0, 1) := by decide +kernel
theorem dX2_leftAtWorst_5 : decode cX2_leftAtWorst 5 = .ok (.istore 4, 2) := by decide +kernel
theorem dX2_leftAtWorst_7 : decode cX2_leftAtWorst 7 = .ok (.iload 4, 2) := by decide +kernel
theorem dX2_leftAtWorst_9 : decode cX2_leftAtWorst 9 = .ok (.iconst 5, 1) := by decide +kernel
theorem dX2_leftAtWorst_10 : decode cX2_leftAtWorst 10 = .ok (.if_icmp .gt 53, 3) := by decide +kernel
theorem dX2_leftAtWorst_13 : decode cX2_leftAtWorst 13 = .ok (.aload_n 0, 1) := by decide +kernel
theorem dX2_leftAtWorst_14 : decode cX2_leftAtWorst 14 = .ok (.getfield 15, 3) := by decide +kernel
theorem dX2_leftAtWorst_17 : decode cX2_leftAtWorst 17 = .ok (.iload 4, 2) := by decide +kernel
theorem dX2_leftAtWorst_19 : decode cX2_leftAtWorst 19 = .ok (.ishr, 1) := by decide +kernel
theorem dX2_leftAtWorst_20 : decode cX2_leftAtWorst 20 = .ok (.iconst 1, 1) := by decide +kernel
theorem dX2_leftAtWorst_21 : decode cX2_leftAtWorst 21 = .ok (.iand, 1) := by decide +kernel
theorem dX2_leftAtWorst_22 : decode cX2_leftAtWorst 22 = .ok (.istore 5, 2) := by decide +kernel
theorem dX2_leftAtWorst_24 : decode cX2_leftAtWorst 24 = .ok (.aload_n 0, 1) := by decide +kernel
theorem dX2_leftAtWorst_25 : decode cX2_leftAtWorst 25 = .ok (.getfield 9, 3) := by decide +kernel
theorem dX2_leftAtWorst_28 : decode cX2_leftAtWorst 28 = .ok (.iload 4, 2) := by decide +kernel
theorem dX2_leftAtWorst_30 : decode cX2_leftAtWorst 30 = .ok (.invokestatic 43, 3) := by decide +kernel
theorem dX2_leftAtWorst_33 : decode cX2_leftAtWorst 33 = .ok (.iload_n 1, 1) := by decide +kernel
theorem dX2_leftAtWorst_34 : decode cX2_leftAtWorst 34 = .ok (.ishr, 1) := by decide +kernel
theorem dX2_leftAtWorst_35 : decode cX2_leftAtWorst 35 = .ok (.iconst 1, 1) := by decide +kernel
theorem dX2_leftAtWorst_36 : decode cX2_leftAtWorst 36 = .ok (.iand, 1) := by decide +kernel
theorem dX2_leftAtWorst_37 : decode cX2_leftAtWorst 37 = .ok (.istore 6, 2) := by decide +kernel
theorem dX2_leftAtWorst_39 : decode cX2_leftAtWorst 39 = .ok (.iload_n 2, 1) := by decide +kernel
theorem dX2_leftAtWorst_40 : decode cX2_leftAtWorst 40 = .ok (.iload 5, 2) := by decide +kernel
theorem dX2_leftAtWorst_42 : decode cX2_leftAtWorst 42 = .ok (.iload 6, 2) := by decide +kernel
theorem dX2_leftAtWorst_44 : decode cX2_leftAtWorst 44 = .ok (.imul, 1) := by decide +kernel
theorem dX2_leftAtWorst_45 : decode cX2_leftAtWorst 45 = .ok (.iadd, 1) := by decide +kernel
theorem dX2_leftAtWorst_46 : decode cX2_leftAtWorst 46 = .ok (.istore_n 2, 1) := by decide +kernel
theorem dX2_leftAtWorst_47 : decode cX2_leftAtWorst 47 = .ok (.iload_n 3, 1) := by decide +kernel
theorem dX2_leftAtWorst_48 : decode cX2_leftAtWorst 48 = .ok (.iload 5, 2) := by decide +kernel
theorem dX2_leftAtWorst_50 : decode cX2_leftAtWorst 50 = .ok (.iconst 1, 1) := by decide +kernel
theorem dX2_leftAtWorst_51 : decode cX2_leftAtWorst 51 = .ok (.iload 6, 2) := by decide +kernel
theorem dX2_leftAtWorst_53 : decode cX2_leftAtWorst 53 = .ok (.isub, 1) := by decide +kernel
theorem dX2_leftAtWorst_54 : decode cX2_leftAtWorst 54 = .ok (.imul, 1) := by decide +kernel
theorem dX2_leftAtWorst_55 : decode cX2_leftAtWorst 55 = .ok (.iadd, 1) := by decide +kernel
theorem dX2_leftAtWorst_56 : decode cX2_leftAtWorst 56 = .ok (.istore_n 3, 1) := by decide +kernel
theorem dX2_leftAtWorst_57 : decode cX2_leftAtWorst 57 = .ok (.iinc 4 1, 3) := by decide +kernel
theorem dX2_leftAtWorst_60 : decode cX2_leftAtWorst 60 = .ok (.goto (-53), 3) := by decide +kernel
theorem dX2_leftAtWorst_63 : decode cX2_leftAtWorst 63 = .ok (.iload_n 2, 1) := by decide +kernel
theorem dX2_leftAtWorst_64 : decode cX2_leftAtWorst 64 = .ok (.iload_n 3, 1) := by decide +kernel
theorem dX2_leftAtWorst_65 : decode cX2_leftAtWorst 65 = .ok (.invokestatic 56, 3) := by decide +kernel
theorem dX2_leftAtWorst_68 : decode cX2_leftAtWorst 68 = .ok (.ireturn, 1) := by decide +kernel
theorem dX2_question_0 : decode cX2_question 0 = .ok (.iconst (-1), 1) := by decide +kernel
theorem dX2_question_1 : decode cX2_question 1 = .ok (.istore_n 2, 1) := by decide +kernel
theorem dX2_question_2 : decode cX2_question 2 = .ok (.iconst 0, 1) := by decide +kernel
theorem dX2_question_3 : decode cX2_question 3 = .ok (.istore_n 3, 1) := by decide +kernel
theorem dX2_question_4 : decode cX2_question 4 = .ok (.iconst 0, 1) := by decide +kernel
theorem dX2_question_5 : decode cX2_question 5 = .ok (.istore 4, 2) := by decide +kernel
theorem dX2_question_7 : decode cX2_question 7 = .ok (.iload 4, 2) := by decide +kernel
theorem dX2_question_9 : decode cX2_question 9 = .ok (.aload_n 1, 1) := by decide +kernel
theorem dX2_question_10 : decode cX2_question 10 = .ok (.getfield 50, 3) := by decide +kernel
theorem dX2_question_13 : decode cX2_question 13 = .ok (.if_icmp .ge 41, 3) := by decide +kernel
theorem dX2_question_16 : decode cX2_question 16 = .ok (.aload_n 0, 1) := by decide +kernel
theorem dX2_question_17 : decode cX2_question 17 = .ok (.getfield 15, 3) := by decide +kernel
theorem dX2_question_20 : decode cX2_question 20 = .ok (.ifCond .eq 34, 3) := by decide +kernel
theorem dX2_question_23 : decode cX2_question 23 = .ok (.aload_n 0, 1) := by decide +kernel
theorem dX2_question_24 : decode cX2_question 24 = .ok (.iload 4, 2) := by decide +kernel
theorem dX2_question_26 : decode cX2_question 26 = .ok (.invokevirtual 53, 3) := by decide +kernel
theorem dX2_question_29 : decode cX2_question 29 = .ok (.istore 5, 2) := by decide +kernel
theorem dX2_question_31 : decode cX2_question 31 = .ok (.iload_n 2, 1) := by decide +kernel
theorem dX2_question_32 : decode cX2_question 32 = .ok (.iconst (-1), 1) := by decide +kernel
theorem dX2_question_33 : decode cX2_question 33 = .ok (.if_icmp .eq 9, 3) := by decide +kernel
theorem dX2_question_36 : decode cX2_question 36 = .ok (.iload 5, 2) := by decide +kernel
theorem dX2_question_38 : decode cX2_question 38 = .ok (.iload_n 3, 1) := by decide +kernel
theorem dX2_question_39 : decode cX2_question 39 = .ok (.if_icmp .ge 9, 3) := by decide +kernel
theorem dX2_question_42 : decode cX2_question 42 = .ok (.iload 4, 2) := by decide +kernel
theorem dX2_question_44 : decode cX2_question 44 = .ok (.istore_n 2, 1) := by decide +kernel
theorem dX2_question_45 : decode cX2_question 45 = .ok (.iload 5, 2) := by decide +kernel
theorem dX2_question_47 : decode cX2_question 47 = .ok (.istore_n 3, 1) := by decide +kernel
theorem dX2_question_48 : decode cX2_question 48 = .ok (.iinc 4 1, 3) := by decide +kernel
theorem dX2_question_51 : decode cX2_question 51 = .ok (.goto (-44), 3) := by decide +kernel
theorem dX2_question_54 : decode cX2_question 54 = .ok (.iload_n 2, 1) := by decide +kernel
theorem dX2_question_55 : decode cX2_question 55 = .ok (.ireturn, 1) := by decide +kernel
