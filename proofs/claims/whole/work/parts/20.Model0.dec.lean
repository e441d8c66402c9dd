theorem dX11_isIn_0 : decode cX11_isIn 0 = .ok (.iload_n 0, 1) := by decide +kernel
theorem dX11_isIn_1 : decode cX11_isIn 1 = .ok (.iload_n 1, 1) := by decide +kernel
theorem dX11_isIn_2 : decode cX11_isIn 2 = .ok (.if_icmp .lt 12, 3) := by decide +kernel
theorem dX11_isIn_5 : decode cX11_isIn 5 = .ok (.iload_n 0, 1) := by decide +kernel
theorem dX11_isIn_6 : decode cX11_isIn 6 = .ok (.iload_n 2, 1) := by decide +kernel
theorem dX11_isIn_7 : decode cX11_isIn 7 = .ok (.if_icmp .gt 7, 3) := by decide +kernel
theorem dX11_isIn_10 : decode cX11_isIn 10 = .ok (.iconst 1, 1) := by decide +kernel
theorem dX11_isIn_11 : decode cX11_isIn 11 = .ok (.goto 4, 3) := by decide +kernel
theorem dX11_isIn_14 : decode cX11_isIn 14 = .ok (.iconst 0, 1) := by decide +kernel
theorem dX11_isIn_15 : decode cX11_isIn 15 = .ok (.ireturn, 1) := by decide +kernel
theorem dX11_feed_0 : decode cX11_feed 0 = .ok (.aload_n 0, 1) := by decide +kernel
theorem dX11_feed_1 : decode cX11_feed 1 = .ok (.getfield 7, 3) := by decide +kernel
theorem dX11_feed_4 : decode cX11_feed 4 = .ok (.iconst 4, 1) := by decide +kernel
theorem dX11_feed_5 : decode cX11_feed 5 = .ok (.iaload, 1) := by decide +kernel
theorem dX11_feed_6 : decode cX11_feed 6 = .ok (.bipush 20, 2) := by decide +kernel
theorem dX11_feed_8 : decode cX11_feed 8 = .ok (.iadd, 1) := by decide +kernel
theorem dX11_feed_9 : decode cX11_feed 9 = .ok (.sipush 600, 3) := by decide +kernel
theorem dX11_feed_12 : decode cX11_feed 12 = .ok (.if_icmp .le 5, 3) := by decide +kernel
theorem dX11_feed_15 : decode cX11_feed 15 = .ok (.iconst (-1), 1) := by decide +kernel
theorem dX11_feed_16 : decode cX11_feed 16 = .ok (.ireturn, 1) := by decide +kernel
theorem dX11_feed_17 : decode cX11_feed 17 = .ok (.iconst 0, 1) := by decide +kernel
theorem dX11_feed_18 : decode cX11_feed 18 = .ok (.istore 6, 2) := by decide +kernel
theorem dX11_feed_20 : decode cX11_feed 20 = .ok (.iload 6, 2) := by decide +kernel
theorem dX11_feed_22 : decode cX11_feed 22 = .ok (.bipush 20, 2) := by decide +kernel
theorem dX11_feed_24 : decode cX11_feed 24 = .ok (.if_icmp .ge 98, 3) := by decide +kernel
theorem dX11_feed_27 : decode cX11_feed 27 = .ok (.iload 6, 2) := by decide +kernel
theorem dX11_feed_29 : decode cX11_feed 29 = .ok (.iconst 4, 1) := by decide +kernel
theorem dX11_feed_30 : decode cX11_feed 30 = .ok (.if_icmp .ge 7, 3) := by decide +kernel
theorem dX11_feed_33 : decode cX11_feed 33 = .ok (.iload_n 1, 1) := by decide +kernel
theorem dX11_feed_34 : decode cX11_feed 34 = .ok (.goto 39, 3) := by decide +kernel
theorem dX11_feed_37 : decode cX11_feed 37 = .ok (.iload 6, 2) := by decide +kernel
theorem dX11_feed_39 : decode cX11_feed 39 = .ok (.bipush 8, 2) := by decide +kernel
theorem dX11_feed_41 : decode cX11_feed 41 = .ok (.if_icmp .ge 7, 3) := by decide +kernel
theorem dX11_feed_44 : decode cX11_feed 44 = .ok (.iload_n 2, 1) := by decide +kernel
theorem dX11_feed_45 : decode cX11_feed 45 = .ok (.goto 28, 3) := by decide +kernel
theorem dX11_feed_48 : decode cX11_feed 48 = .ok (.iload 6, 2) := by decide +kernel
theorem dX11_feed_50 : decode cX11_feed 50 = .ok (.bipush 12, 2) := by decide +kernel
theorem dX11_feed_52 : decode cX11_feed 52 = .ok (.if_icmp .ge 7, 3) := by decide +kernel
theorem dX11_feed_55 : decode cX11_feed 55 = .ok (.iload_n 3, 1) := by decide +kernel
theorem dX11_feed_56 : decode cX11_feed 56 = .ok (.goto 17, 3) := by decide +kernel
theorem dX11_feed_59 : decode cX11_feed 59 = .ok (.iload 6, 2) := by decide +kernel
theorem dX11_feed_61 : decode cX11_feed 61 = .ok (.bipush 16, 2) := by decide +kernel
theorem dX11_feed_63 : decode cX11_feed 63 = .ok (.if_icmp .ge 8, 3) := by decide +kernel
theorem dX11_feed_66 : decode cX11_feed 66 = .ok (.iload 4, 2) := by decide +kernel
theorem dX11_feed_68 : decode cX11_feed 68 = .ok (.goto 5, 3) := by decide +kernel
theorem dX11_feed_71 : decode cX11_feed 71 = .ok (.iload 5, 2) := by decide +kernel
theorem dX11_feed_73 : decode cX11_feed 73 = .ok (.istore 7, 2) := by decide +kernel
theorem dX11_feed_75 : decode cX11_feed 75 = .ok (.aload_n 0, 1) := by decide +kernel
theorem dX11_feed_76 : decode cX11_feed 76 = .ok (.getfield 7, 3) := by decide +kernel
theorem dX11_feed_79 : decode cX11_feed 79 = .ok (.bipush 10, 2) := by decide +kernel
theorem dX11_feed_81 : decode cX11_feed 81 = .ok (.aload_n 0, 1) := by decide +kernel
theorem dX11_feed_82 : decode cX11_feed 82 = .ok (.getfield 7, 3) := by decide +kernel
theorem dX11_feed_85 : decode cX11_feed 85 = .ok (.iconst 4, 1) := by decide +kernel
theorem dX11_feed_86 : decode cX11_feed 86 = .ok (.iaload, 1) := by decide +kernel
theorem dX11_feed_87 : decode cX11_feed 87 = .ok (.iadd, 1) := by decide +kernel
theorem dX11_feed_88 : decode cX11_feed 88 = .ok (.iload 7, 2) := by decide +kernel
theorem dX11_feed_90 : decode cX11_feed 90 = .ok (.bipush 24, 2) := by decide +kernel
theorem dX11_feed_92 : decode cX11_feed 92 = .ok (.bipush 8, 2) := by decide +kernel
theorem dX11_feed_94 : decode cX11_feed 94 = .ok (.iload 6, 2) := by decide +kernel
theorem dX11_feed_96 : decode cX11_feed 96 = .ok (.iconst 4, 1) := by decide +kernel
theorem dX11_feed_97 : decode cX11_feed 97 = .ok (.irem, 1) := by decide +kernel
theorem dX11_feed_98 : decode cX11_feed 98 = .ok (.imul, 1) := by decide +kernel
theorem dX11_feed_99 : decode cX11_feed 99 = .ok (.isub, 1) := by decide +kernel
theorem dX11_feed_100 : decode cX11_feed 100 = .ok (.ishr, 1) := by decide +kernel
theorem dX11_feed_101 : decode cX11_feed 101 = .ok (.sipush 255, 3) := by decide +kernel
theorem dX11_feed_104 : decode cX11_feed 104 = .ok (.iand, 1) := by decide +kernel
theorem dX11_feed_105 : decode cX11_feed 105 = .ok (.iastore, 1) := by decide +kernel
theorem dX11_feed_106 : decode cX11_feed 106 = .ok (.aload_n 0, 1) := by decide +kernel
theorem dX11_feed_107 : decode cX11_feed 107 = .ok (.getfield 7, 3) := by decide +kernel
theorem dX11_feed_110 : decode cX11_feed 110 = .ok (.iconst 4, 1) := by decide +kernel
theorem dX11_feed_111 : decode cX11_feed 111 = .ok (.dup2, 1) := by decide +kernel
theorem dX11_feed_112 : decode cX11_feed 112 = .ok (.iaload, 1) := by decide +kernel
theorem dX11_feed_113 : decode cX11_feed 113 = .ok (.iconst 1, 1) := by decide +kernel
theorem dX11_feed_114 : decode cX11_feed 114 = .ok (.iadd, 1) := by decide +kernel
theorem dX11_feed_115 : decode cX11_feed 115 = .ok (.iastore, 1) := by decide +kernel
theorem dX11_feed_116 : decode cX11_feed 116 = .ok (.iinc 6 1, 3) := by decide +kernel
theorem dX11_feed_119 : decode cX11_feed 119 = .ok (.goto (-99), 3) := by decide +kernel
theorem dX11_feed_122 : decode cX11_feed 122 = .ok (.aload_n 0, 1) := by decide +kernel
theorem dX11_feed_123 : decode cX11_feed 123 = .ok (.getfield 7, 3) := by decide +kernel
theorem dX11_feed_126 : decode cX11_feed 126 = .ok (.iconst 4, 1) := by decide +kernel
theorem dX11_feed_127 : decode cX11_feed 127 = .ok (.iaload, 1) := by decide +kernel
theorem dX11_feed_128 : decode cX11_feed 128 = .ok (.ireturn, 1) := by decide +kernel
theorem dX11_end_0 : decode cX11_end 0 = .ok (.iload_n 1, 1) := by decide +kernel
theorem dX11_end_1 : decode cX11_end 1 = .ok (.ifCond .lt 13, 3) := by decide +kernel
theorem dX11_end_4 : decode cX11_end 4 = .ok (.iload_n 1, 1) := by decide +kernel
theorem dX11_end_5 : decode cX11_end 5 = .ok (.aload_n 0, 1) := by decide +kernel
theorem dX11_end_6 : decode cX11_end 6 = .ok (.getfield 7, 3) := by decide +kernel
theorem dX11_end_9 : decode cX11_end 9 = .ok (.iconst 4, 1) := by decide +kernel
theorem dX11_end_10 : decode cX11_end 10 = .ok (.iaload, 1) := by decide +kernel
theorem dX11_end_11 : decode cX11_end 11 = .ok (.if_icmp .le 5, 3) := by decide +kernel
theorem dX11_end_14 : decode cX11_end 14 = .ok (.iconst (-1), 1) := by decide +kernel
theorem dX11_end_15 : decode cX11_end 15 = .ok (.ireturn, 1) := by decide +kernel
theorem dX11_end_16 : decode cX11_end 16 = .ok (.aload_n 0, 1) := by decide +kernel
theorem dX11_end_17 : decode cX11_end 17 = .ok (.getfield 7, 3) := by decide +kernel
theorem dX11_end_20 : decode cX11_end 20 = .ok (.iconst 4, 1) := by decide +kernel
theorem dX11_end_21 : decode cX11_end 21 = .ok (.iload_n 1, 1) := by decide +kernel
theorem dX11_end_22 : decode cX11_end 22 = .ok (.iastore, 1) := by decide +kernel
theorem dX11_end_23 : decode cX11_end 23 = .ok (.iload_n 1, 1) := by decide +kernel
theorem dX11_end_24 : decode cX11_end 24 = .ok (.ireturn, 1) := by decide +kernel
theorem dX11_byteAt_0 : decode cX11_byteAt 0 = .ok (.iload_n 1, 1) := by decide +kernel
theorem dX11_byteAt_1 : decode cX11_byteAt 1 = .ok (.aload_n 0, 1) := by decide +kernel
theorem dX11_byteAt_2 : decode cX11_byteAt 2 = .ok (.getfield 68, 3) := by decide +kernel
theorem dX11_byteAt_5 : decode cX11_byteAt 5 = .ok (.if_icmp .ge 15, 3) := by decide +kernel
theorem dX11_byteAt_8 : decode cX11_byteAt 8 = .ok (.aload_n 0, 1) := by decide +kernel
theorem dX11_byteAt_9 : decode cX11_byteAt 9 = .ok (.getfield 7, 3) := by decide +kernel
theorem dX11_byteAt_12 : decode cX11_byteAt 12 = .ok (.bipush 10, 2) := by decide +kernel
theorem dX11_byteAt_14 : decode cX11_byteAt 14 = .ok (.iload_n 1, 1) := by decide +kernel
theorem dX11_byteAt_15 : decode cX11_byteAt 15 = .ok (.iadd, 1) := by decide +kernel
theorem dX11_byteAt_16 : decode cX11_byteAt 16 = .ok (.iaload, 1) := by decide +kernel
theorem dX11_byteAt_17 : decode cX11_byteAt 17 = .ok (.goto 4, 3) := by decide +kernel
theorem dX11_byteAt_20 : decode cX11_byteAt 20 = .ok (.iconst (-1), 1) := by decide +kernel
theorem dX11_byteAt_21 : decode cX11_byteAt 21 = .ok (.ireturn, 1) := by decide +kernel
theorem dX11_isLetter_0 : decode cX11_isLetter 0 = .ok (.iload_n 0, 1) := by decide +kernel
theorem dX11_isLetter_1 : decode cX11_isLetter 1 = .ok (.bipush 97, 2) := by decide +kernel
theorem dX11_isLetter_3 : decode cX11_isLetter 3 = .ok (.if_icmp .lt 13, 3) := by decide +kernel
theorem dX11_isLetter_6 : decode cX11_isLetter 6 = .ok (.iload_n 0, 1) := by decide +kernel
theorem dX11_isLetter_7 : decode cX11_isLetter 7 = .ok (.bipush 122, 2) := by decide +kernel
theorem dX11_isLetter_9 : decode cX11_isLetter 9 = .ok (.if_icmp .gt 7, 3) := by decide +kernel
theorem dX11_isLetter_12 : decode cX11_isLetter 12 = .ok (.iconst 1, 1) := by decide +kernel
theorem dX11_isLetter_13 : decode cX11_isLetter 13 = .ok (.goto 4, 3) := by decide +kernel
theorem dX11_isLetter_16 : decode cX11_isLetter 16 = .ok (.iconst 0, 1) := by decide +kernel
theorem dX11_isLetter_17 : decode cX11_isLetter 17 = .ok (.ireturn, 1) := by decide +kernel
theorem dX11_isDigit_0 : decode cX11_isDigit 0 = .ok (.iload_n 0, 1) := by decide +kernel
theorem dX11_isDigit_1 : decode cX11_isDigit 1 = .ok (.bipush 48, 2) := by decide +kernel
theorem dX11_isDigit_3 : decode cX11_isDigit 3 = .ok (.if_icmp .lt 13, 3) := by decide +kernel
theorem dX11_isDigit_6 : decode cX11_isDigit 6 = .ok (.iload_n 0, 1) := by decide +kernel
theorem dX11_isDigit_7 : decode cX11_isDigit 7 = .ok (.bipush 57, 2) := by decide +kernel
theorem dX11_isDigit_9 : decode cX11_isDigit 9 = .ok (.if_icmp .gt 7, 3) := by decide +kernel
theorem dX11_isDigit_12 : decode cX11_isDigit 12 = .ok (.iconst 1, 1) := by decide +kernel
theorem dX11_isDigit_13 : decode cX11_isDigit 13 = .ok (.goto 4, 3) := by decide +kernel
theorem dX11_isDigit_16 : decode cX11_isDigit 16 = .ok (.iconst 0, 1) := by decide +kernel
theorem dX11_isDigit_17 : decode cX11_isDigit 17 = .ok (.ireturn, 1) := by decide +kernel
theorem dX11_four_0 : decode cX11_four 0 = .ok (.iload_n 0, 1) := by decide +kernel
theorem dX11_four_1 : decode cX11_four 1 = .ok (.bipush 32, 2) := by decide +kernel
theorem dX11_four_3 : decode cX11_four 3 = .ok (.imul, 1) := by decide +kernel
theorem dX11_four_4 : decode cX11_four 4 = .ok (.iload_n 1, 1) := by decide +kernel
theorem dX11_four_5 : decode cX11_four 5 = .ok (.iadd, 1) := by decide +kernel
theorem dX11_four_6 : decode cX11_four 6 = .ok (.bipush 32, 2) := by decide +kernel
theorem dX11_four_8 : decode cX11_four 8 = .ok (.imul, 1) := by decide +kernel
theorem dX11_four_9 : decode cX11_four 9 = .ok (.iload_n 2, 1) := by decide +kernel
theorem dX11_four_10 : decode cX11_four 10 = .ok (.iadd, 1) := by decide +kernel
theorem dX11_four_11 : decode cX11_four 11 = .ok (.bipush 32, 2) := by decide +kernel
theorem dX11_four_13 : decode cX11_four 13 = .ok (.imul, 1) := by decide +kernel
theorem dX11_four_14 : decode cX11_four 14 = .ok (.iload_n 3, 1) := by decide +kernel
theorem dX11_four_15 : decode cX11_four 15 = .ok (.iadd, 1) := by decide +kernel
theorem dX11_four_16 : decode cX11_four 16 = .ok (.i2l, 1) := by decide +kernel
theorem dX11_four_17 : decode cX11_four 17 = .ok (.lreturn, 1) := by decide +kernel
theorem dX11_eight_0 : decode cX11_eight 0 = .ok (.iload_n 0, 1) := by decide +kernel
theorem dX11_eight_1 : decode cX11_eight 1 = .ok (.iload_n 1, 1) := by decide +kernel
theorem dX11_eight_2 : decode cX11_eight 2 = .ok (.iload_n 2, 1) := by decide +kernel
theorem dX11_eight_3 : decode cX11_eight 3 = .ok (.iload_n 3, 1) := by decide +kernel
theorem dX11_eight_4 : decode cX11_eight 4 = .ok (.invokestatic 72, 3) := by decide +kernel
theorem dX11_eight_7 : decode cX11_eight 7 = .ok (.ldc2_w 76, 3) := by decide +kernel
theorem dX11_eight_10 : decode cX11_eight 10 = .ok (.lmul, 1) := by decide +kernel
theorem dX11_eight_11 : decode cX11_eight 11 = .ok (.iload 4, 2) := by decide +kernel
theorem dX11_eight_13 : decode cX11_eight 13 = .ok (.iload 5, 2) := by decide +kernel
theorem dX11_eight_15 : decode cX11_eight 15 = .ok (.iload 6, 2) := by decide +kernel
theorem dX11_eight_17 : decode cX11_eight 17 = .ok (.iload 7, 2) := by decide +kernel
theorem dX11_eight_19 : decode cX11_eight 19 = .ok (.invokestatic 72, 3) := by decide +kernel
theorem dX11_eight_22 : decode cX11_eight 22 = .ok (.ladd, 1) := by decide +kernel
theorem dX11_eight_23 : decode cX11_eight 23 = .ok (.lreturn, 1) := by decide +kernel
theorem dX11_wordOf_0 : decode cX11_wordOf 0 = .ok (.lload_n 0, 1) := by decide +kernel
theorem dX11_wordOf_1 : decode cX11_wordOf 1 = .ok (.iconst 0, 1) := by decide +kernel
theorem dX11_wordOf_2 : decode cX11_wordOf 2 = .ok (.iconst 0, 1) := by decide +kernel
theorem dX11_wordOf_3 : decode cX11_wordOf 3 = .ok (.iconst 0, 1) := by decide +kernel
theorem dX11_wordOf_4 : decode cX11_wordOf 4 = .ok (.bipush 6, 2) := by decide +kernel
theorem dX11_wordOf_6 : decode cX11_wordOf 6 = .ok (.bipush 12, 2) := by decide +kernel
theorem dX11_wordOf_8 : decode cX11_wordOf 8 = .ok (.bipush 15, 2) := by decide +kernel
theorem dX11_wordOf_10 : decode cX11_wordOf 10 = .ok (.bipush 15, 2) := by decide +kernel
theorem dX11_wordOf_12 : decode cX11_wordOf 12 = .ok (.bipush 18, 2) := by decide +kernel
theorem dX11_wordOf_14 : decode cX11_wordOf 14 = .ok (.invokestatic 78, 3) := by decide +kernel
theorem dX11_wordOf_17 : decode cX11_wordOf 17 = .ok (.lcmp, 1) := by decide +kernel
theorem dX11_wordOf_18 : decode cX11_wordOf 18 = .ok (.ifCond .ne 5, 3) := by decide +kernel
theorem dX11_wordOf_21 : decode cX11_wordOf 21 = .ok (.iconst 1, 1) := by decide +kernel
theorem dX11_wordOf_22 : decode cX11_wordOf 22 = .ok (.ireturn, 1) := by decide +kernel
theorem dX11_wordOf_23 : decode cX11_wordOf 23 = .ok (.lload_n 0, 1) := by decide +kernel
theorem dX11_wordOf_24 : decode cX11_wordOf 24 = .ok (.iconst 0, 1) := by decide +kernel
theorem dX11_wordOf_25 : decode cX11_wordOf 25 = .ok (.iconst 2, 1) := by decide +kernel
theorem dX11_wordOf_26 : decode cX11_wordOf 26 = .ok (.iconst 1, 1) := by decide +kernel
theorem dX11_wordOf_27 : decode cX11_wordOf 27 = .ok (.bipush 18, 2) := by decide +kernel
theorem dX11_wordOf_29 : decode cX11_wordOf 29 = .ok (.invokestatic 72, 3) := by decide +kernel
theorem dX11_wordOf_32 : decode cX11_wordOf 32 = .ok (.lcmp, 1) := by decide +kernel
theorem dX11_wordOf_33 : decode cX11_wordOf 33 = .ok (.ifCond .ne 5, 3) := by decide +kernel
theorem dX11_wordOf_36 : decode cX11_wordOf 36 = .ok (.iconst 2, 1) := by decide +kernel
theorem dX11_wordOf_37 : decode cX11_wordOf 37 = .ok (.ireturn, 1) := by decide +kernel
theorem dX11_wordOf_38 : decode cX11_wordOf 38 = .ok (.lload_n 0, 1) := by decide +kernel
theorem dX11_wordOf_39 : decode cX11_wordOf 39 = .ok (.iconst 0, 1) := by decide +kernel
theorem dX11_wordOf_40 : decode cX11_wordOf 40 = .ok (.iconst 0, 1) := by decide +kernel
theorem dX11_wordOf_41 : decode cX11_wordOf 41 = .ok (.bipush 19, 2) := by decide +kernel
theorem dX11_wordOf_43 : decode cX11_wordOf 43 = .ok (.bipush 9, 2) := by decide +kernel
theorem dX11_wordOf_45 : decode cX11_wordOf 45 = .ok (.bipush 14, 2) := by decide +kernel
theorem dX11_wordOf_47 : decode cX11_wordOf 47 = .ok (.bipush 7, 2) := by decide +kernel
theorem dX11_wordOf_49 : decode cX11_wordOf 49 = .ok (.iconst 5, 1) := by decide +kernel
theorem dX11_wordOf_50 : decode cX11_wordOf 50 = .ok (.bipush 18, 2) := by decide +kernel
theorem dX11_wordOf_52 : decode cX11_wordOf 52 = .ok (.invokestatic 78, 3) := by decide +kernel
theorem dX11_wordOf_55 : decode cX11_wordOf 55 = .ok (.lcmp, 1) := by decide +kernel
theorem dX11_wordOf_56 : decode cX11_wordOf 56 = .ok (.ifCond .ne 5, 3) := by decide +kernel
theorem dX11_wordOf_59 : decode cX11_wordOf 59 = .ok (.iconst 3, 1) := by decide +kernel
theorem dX11_wordOf_60 : decode cX11_wordOf 60 = .ok (.ireturn, 1) := by decide +kernel
theorem dX11_wordOf_61 : decode cX11_wordOf 61 = .ok (.lload_n 0, 1) := by decide +kernel
theorem dX11_wordOf_62 : decode cX11_wordOf 62 = .ok (.bipush 19, 2) := by decide +kernel
theorem dX11_wordOf_64 : decode cX11_wordOf 64 = .ok (.bipush 20, 2) := by decide +kernel
theorem dX11_wordOf_66 : decode cX11_wordOf 66 = .ok (.iconst 5, 1) := by decide +kernel
theorem dX11_wordOf_67 : decode cX11_wordOf 67 = .ok (.bipush 16, 2) := by decide +kernel
theorem dX11_wordOf_69 : decode cX11_wordOf 69 = .ok (.invokestatic 72, 3) := by decide +kernel
theorem dX11_wordOf_72 : decode cX11_wordOf 72 = .ok (.lcmp, 1) := by decide +kernel
theorem dX11_wordOf_73 : decode cX11_wordOf 73 = .ok (.ifCond .ne 5, 3) := by decide +kernel
theorem dX11_wordOf_76 : decode cX11_wordOf 76 = .ok (.iconst 4, 1) := by decide +kernel
theorem dX11_wordOf_77 : decode cX11_wordOf 77 = .ok (.ireturn, 1) := by decide +kernel
theorem dX11_wordOf_78 : decode cX11_wordOf 78 = .ok (.lload_n 0, 1) := by decide +kernel
theorem dX11_wordOf_79 : decode cX11_wordOf 79 = .ok (.bipush 23, 2) := by decide +kernel
theorem dX11_wordOf_81 : decode cX11_wordOf 81 = .ok (.iconst 1, 1) := by decide +kernel
theorem dX11_wordOf_82 : decode cX11_wordOf 82 = .ok (.bipush 12, 2) := by decide +kernel
theorem dX11_wordOf_84 : decode cX11_wordOf 84 = .ok (.bipush 12, 2) := by decide +kernel
theorem dX11_wordOf_86 : decode cX11_wordOf 86 = .ok (.invokestatic 72, 3) := by decide +kernel
theorem dX11_wordOf_89 : decode cX11_wordOf 89 = .ok (.lcmp, 1) := by decide +kernel
theorem dX11_wordOf_90 : decode cX11_wordOf 90 = .ok (.ifCond .ne 5, 3) := by decide +kernel
theorem dX11_wordOf_93 : decode cX11_wordOf 93 = .ok (.iconst 5, 1) := by decide +kernel
theorem dX11_wordOf_94 : decode cX11_wordOf 94 = .ok (.ireturn, 1) := by decide +kernel
theorem dX11_wordOf_95 : decode cX11_wordOf 95 = .ok (.lload_n 0, 1) := by decide +kernel
theorem dX11_wordOf_96 : decode cX11_wordOf 96 = .ok (.bipush 19, 2) := by decide +kernel
theorem dX11_wordOf_98 : decode cX11_wordOf 98 = .ok (.bipush 9, 2) := by decide +kernel
theorem dX11_wordOf_100 : decode cX11_wordOf 100 = .ok (.bipush 14, 2) := by decide +kernel
theorem dX11_wordOf_102 : decode cX11_wordOf 102 = .ok (.bipush 7, 2) := by decide +kernel
theorem dX11_wordOf_104 : decode cX11_wordOf 104 = .ok (.invokestatic 72, 3) := by decide +kernel
theorem dX11_wordOf_107 : decode cX11_wordOf 107 = .ok (.lcmp, 1) := by decide +kernel
theorem dX11_wordOf_108 : decode cX11_wordOf 108 = .ok (.ifCond .ne 6, 3) := by decide +kernel
theorem dX11_wordOf_111 : decode cX11_wordOf 111 = .ok (.bipush 6, 2) := by decide +kernel
theorem dX11_wordOf_113 : decode cX11_wordOf 113 = .ok (.ireturn, 1) := by decide +kernel
theorem dX11_wordOf_114 : decode cX11_wordOf 114 = .ok (.lload_n 0, 1) := by decide +kernel
theorem dX11_wordOf_115 : decode cX11_wordOf 115 = .ok (.iconst 3, 1) := by decide +kernel
theorem dX11_wordOf_116 : decode cX11_wordOf 116 = .ok (.bipush 15, 2) := by decide +kernel
theorem dX11_wordOf_118 : decode cX11_wordOf 118 = .ok (.bipush 12, 2) := by decide +kernel
theorem dX11_wordOf_120 : decode cX11_wordOf 120 = .ok (.iconst 4, 1) := by decide +kernel
theorem dX11_wordOf_121 : decode cX11_wordOf 121 = .ok (.invokestatic 72, 3) := by decide +kernel
theorem dX11_wordOf_124 : decode cX11_wordOf 124 = .ok (.lcmp, 1) := by decide +kernel
theorem dX11_wordOf_125 : decode cX11_wordOf 125 = .ok (.ifCond .ne 6, 3) := by decide +kernel
theorem dX11_wordOf_128 : decode cX11_wordOf 128 = .ok (.bipush 7, 2) := by decide +kernel
theorem dX11_wordOf_130 : decode cX11_wordOf 130 = .ok (.ireturn, 1) := by decide +kernel
theorem dX11_wordOf_131 : decode cX11_wordOf 131 = .ok (.lload_n 0, 1) := by decide +kernel
theorem dX11_wordOf_132 : decode cX11_wordOf 132 = .ok (.bipush 23, 2) := by decide +kernel
theorem dX11_wordOf_134 : decode cX11_wordOf 134 = .ok (.iconst 5, 1) := by decide +kernel
theorem dX11_wordOf_135 : decode cX11_wordOf 135 = .ok (.bipush 12, 2) := by decide +kernel
theorem dX11_wordOf_137 : decode cX11_wordOf 137 = .ok (.bipush 12, 2) := by decide +kernel
theorem dX11_wordOf_139 : decode cX11_wordOf 139 = .ok (.invokestatic 72, 3) := by decide +kernel
theorem dX11_wordOf_142 : decode cX11_wordOf 142 = .ok (.lcmp, 1) := by decide +kernel
theorem dX11_wordOf_143 : decode cX11_wordOf 143 = .ok (.ifCond .ne 6, 3) := by decide +kernel
theorem dX11_wordOf_146 : decode cX11_wordOf 146 = .ok (.bipush 8, 2) := by decide +kernel
theorem dX11_wordOf_148 : decode cX11_wordOf 148 = .ok (.ireturn, 1) := by decide +kernel
theorem dX11_wordOf_149 : decode cX11_wordOf 149 = .ok (.lload_n 0, 1) := by decide +kernel
theorem dX11_wordOf_150 : decode cX11_wordOf 150 = .ok (.bipush 19, 2) := by decide +kernel
theorem dX11_wordOf_152 : decode cX11_wordOf 152 = .ok (.bipush 11, 2) := by decide +kernel
theorem dX11_wordOf_154 : decode cX11_wordOf 154 = .ok (.bipush 9, 2) := by decide +kernel
theorem dX11_wordOf_156 : decode cX11_wordOf 156 = .ok (.bipush 16, 2) := by decide +kernel
theorem dX11_wordOf_158 : decode cX11_wordOf 158 = .ok (.invokestatic 72, 3) := by decide +kernel
theorem dX11_wordOf_161 : decode cX11_wordOf 161 = .ok (.lcmp, 1) := by decide +kernel
theorem dX11_wordOf_162 : decode cX11_wordOf 162 = .ok (.ifCond .ne 6, 3) := by decide +kernel
theorem dX11_wordOf_165 : decode cX11_wordOf 165 = .ok (.bipush 9, 2) := by decide +kernel
theorem dX11_wordOf_167 : decode cX11_wordOf 167 = .ok (.ireturn, 1) := by decide +kernel
theorem dX11_wordOf_168 : decode cX11_wordOf 168 = .ok (.lload_n 0, 1) := by decide +kernel
theorem dX11_wordOf_169 : decode cX11_wordOf 169 = .ok (.iconst 0, 1) := by decide +kernel
theorem dX11_wordOf_170 : decode cX11_wordOf 170 = .ok (.iconst 0, 1) := by decide +kernel
theorem dX11_wordOf_171 : decode cX11_wordOf 171 = .ok (.iconst 0, 1) := by decide +kernel
theorem dX11_wordOf_172 : decode cX11_wordOf 172 = .ok (.bipush 14, 2) := by decide +kernel
theorem dX11_wordOf_174 : decode cX11_wordOf 174 = .ok (.bipush 9, 2) := by decide +kernel
theorem dX11_wordOf_176 : decode cX11_wordOf 176 = .ok (.bipush 7, 2) := by decide +kernel
theorem dX11_wordOf_178 : decode cX11_wordOf 178 = .ok (.bipush 8, 2) := by decide +kernel
theorem dX11_wordOf_180 : decode cX11_wordOf 180 = .ok (.bipush 20, 2) := by decide +kernel
theorem dX11_wordOf_182 : decode cX11_wordOf 182 = .ok (.invokestatic 78, 3) := by decide +kernel
theorem dX11_wordOf_185 : decode cX11_wordOf 185 = .ok (.lcmp, 1) := by decide +kernel
theorem dX11_wordOf_186 : decode cX11_wordOf 186 = .ok (.ifCond .ne 6, 3) := by decide +kernel
theorem dX11_wordOf_189 : decode cX11_wordOf 189 = .ok (.bipush 10, 2) := by decide +kernel
theorem dX11_wordOf_191 : decode cX11_wordOf 191 = .ok (.ireturn, 1) := by decide +kernel
theorem dX11_wordOf_192 : decode cX11_wordOf 192 = .ok (.lload_n 0, 1) := by decide +kernel
theorem dX11_wordOf_193 : decode cX11_wordOf 193 = .ok (.iconst 0, 1) := by decide +kernel
theorem dX11_wordOf_194 : decode cX11_wordOf 194 = .ok (.iconst 0, 1) := by decide +kernel
theorem dX11_wordOf_195 : decode cX11_wordOf 195 = .ok (.iconst 4, 1) := by decide +kernel
theorem dX11_wordOf_196 : decode cX11_wordOf 196 = .ok (.bipush 18, 2) := by decide +kernel
theorem dX11_wordOf_198 : decode cX11_wordOf 198 = .ok (.iconst 5, 1) := by decide +kernel
theorem dX11_wordOf_199 : decode cX11_wordOf 199 = .ok (.iconst 1, 1) := by decide +kernel
theorem dX11_wordOf_200 : decode cX11_wordOf 200 = .ok (.bipush 13, 2) := by decide +kernel
theorem dX11_wordOf_202 : decode cX11_wordOf 202 = .ok (.bipush 20, 2) := by decide +kernel
theorem dX11_wordOf_204 : decode cX11_wordOf 204 = .ok (.invokestatic 78, 3) := by decide +kernel
theorem dX11_wordOf_207 : decode cX11_wordOf 207 = .ok (.lcmp, 1) := by decide +kernel
theorem dX11_wordOf_208 : decode cX11_wordOf 208 = .ok (.ifCond .ne 6, 3) := by decide +kernel
theorem dX11_wordOf_211 : decode cX11_wordOf 211 = .ok (.bipush 11, 2) := by decide +kernel
theorem dX11_wordOf_213 : decode cX11_wordOf 213 = .ok (.ireturn, 1) := by decide +kernel
theorem dX11_wordOf_214 : decode cX11_wordOf 214 = .ok (.lload_n 0, 1) := by decide +kernel
theorem dX11_wordOf_215 : decode cX11_wordOf 215 = .ok (.iconst 3, 1) := by decide +kernel
theorem dX11_wordOf_216 : decode cX11_wordOf 216 = .ok (.iconst 1, 1) := by decide +kernel
theorem dX11_wordOf_217 : decode cX11_wordOf 217 = .ok (.bipush 12, 2) := by decide +kernel
theorem dX11_wordOf_219 : decode cX11_wordOf 219 = .ok (.bipush 13, 2) := by decide +kernel
theorem dX11_wordOf_221 : decode cX11_wordOf 221 = .ok (.invokestatic 72, 3) := by decide +kernel
theorem dX11_wordOf_224 : decode cX11_wordOf 224 = .ok (.lcmp, 1) := by decide +kernel
theorem dX11_wordOf_225 : decode cX11_wordOf 225 = .ok (.ifCond .ne 8, 3) := by decide +kernel
theorem dX11_wordOf_228 : decode cX11_wordOf 228 = .ok (.bipush 12, 2) := by decide +kernel
theorem dX11_wordOf_230 : decode cX11_wordOf 230 = .ok (.goto 5, 3) := by decide +kernel
theorem dX11_wordOf_233 : decode cX11_wordOf 233 = .ok (.bipush 99, 2) := by decide +kernel
theorem dX11_wordOf_235 : decode cX11_wordOf 235 = .ok (.ireturn, 1) := by decide +kernel
theorem dX11_advance_0 : decode cX11_advance 0 = .ok (.aload_n 0, 1) := by decide +kernel
theorem dX11_advance_1 : decode cX11_advance 1 = .ok (.aload_n 0, 1) := by decide +kernel
theorem dX11_advance_2 : decode cX11_advance 2 = .ok (.getfield 82, 3) := by decide +kernel
theorem dX11_advance_5 : decode cX11_advance 5 = .ok (.invokevirtual 85, 3) := by decide +kernel
theorem dX11_advance_8 : decode cX11_advance 8 = .ok (.bipush 10, 2) := by decide +kernel
theorem dX11_advance_10 : decode cX11_advance 10 = .ok (.if_icmp .eq 16, 3) := by decide +kernel
theorem dX11_advance_13 : decode cX11_advance 13 = .ok (.aload_n 0, 1) := by decide +kernel
theorem dX11_advance_14 : decode cX11_advance 14 = .ok (.aload_n 0, 1) := by decide +kernel
theorem dX11_advance_15 : decode cX11_advance 15 = .ok (.getfield 82, 3) := by decide +kernel
theorem dX11_advance_18 : decode cX11_advance 18 = .ok (.invokevirtual 85, 3) := by decide +kernel
theorem dX11_advance_21 : decode cX11_advance 21 = .ok (.bipush 32, 2) := by decide +kernel
theorem dX11_advance_23 : decode cX11_advance 23 = .ok (.if_icmp .ne 16, 3) := by decide +kernel
theorem dX11_advance_26 : decode cX11_advance 26 = .ok (.aload_n 0, 1) := by decide +kernel
theorem dX11_advance_27 : decode cX11_advance 27 = .ok (.dup, 1) := by decide +kernel
theorem dX11_advance_28 : decode cX11_advance 28 = .ok (.getfield 82, 3) := by decide +kernel
theorem dX11_advance_31 : decode cX11_advance 31 = .ok (.iconst 1, 1) := by decide +kernel
theorem dX11_advance_32 : decode cX11_advance 32 = .ok (.iadd, 1) := by decide +kernel
theorem dX11_advance_33 : decode cX11_advance 33 = .ok (.putfield 82, 3) := by decide +kernel
theorem dX11_advance_36 : decode cX11_advance 36 = .ok (.goto (-36), 3) := by decide +kernel
theorem dX11_advance_39 : decode cX11_advance 39 = .ok (.aload_n 0, 1) := by decide +kernel
theorem dX11_advance_40 : decode cX11_advance 40 = .ok (.aload_n 0, 1) := by decide +kernel
theorem dX11_advance_41 : decode cX11_advance 41 = .ok (.getfield 82, 3) := by decide +kernel
theorem dX11_advance_44 : decode cX11_advance 44 = .ok (.putfield 89, 3) := by decide +kernel
theorem dX11_advance_47 : decode cX11_advance 47 = .ok (.aload_n 0, 1) := by decide +kernel
theorem dX11_advance_48 : decode cX11_advance 48 = .ok (.aload_n 0, 1) := by decide +kernel
theorem dX11_advance_49 : decode cX11_advance 49 = .ok (.getfield 82, 3) := by decide +kernel
theorem dX11_advance_52 : decode cX11_advance 52 = .ok (.invokevirtual 85, 3) := by decide +kernel
theorem dX11_advance_55 : decode cX11_advance 55 = .ok (.istore_n 1, 1) := by decide +kernel
theorem dX11_advance_56 : decode cX11_advance 56 = .ok (.iload_n 1, 1) := by decide +kernel
theorem dX11_advance_57 : decode cX11_advance 57 = .ok (.ifCond .ge 11, 3) := by decide +kernel
theorem dX11_advance_60 : decode cX11_advance 60 = .ok (.aload_n 0, 1) := by decide +kernel
theorem dX11_advance_61 : decode cX11_advance 61 = .ok (.iconst 0, 1) := by decide +kernel
theorem dX11_advance_62 : decode cX11_advance 62 = .ok (.putfield 92, 3) := by decide +kernel
theorem dX11_advance_65 : decode cX11_advance 65 = .ok (.goto 246, 3) := by decide +kernel
theorem dX11_advance_68 : decode cX11_advance 68 = .ok (.iload_n 1, 1) := by decide +kernel
theorem dX11_advance_69 : decode cX11_advance 69 = .ok (.invokestatic 95, 3) := by decide +kernel
theorem dX11_advance_72 : decode cX11_advance 72 = .ok (.ifCond .eq 114, 3) := by decide +kernel
theorem dX11_advance_75 : decode cX11_advance 75 = .ok (.lconst 0, 1) := by decide +kernel
theorem dX11_advance_76 : decode cX11_advance 76 = .ok (.lstore_n 2, 1) := by decide +kernel
theorem dX11_advance_77 : decode cX11_advance 77 = .ok (.aload_n 0, 1) := by decide +kernel
theorem dX11_advance_78 : decode cX11_advance 78 = .ok (.aload_n 0, 1) := by decide +kernel
theorem dX11_advance_79 : decode cX11_advance 79 = .ok (.getfield 82, 3) := by decide +kernel
theorem dX11_advance_82 : decode cX11_advance 82 = .ok (.invokevirtual 85, 3) := by decide +kernel
theorem dX11_advance_85 : decode cX11_advance 85 = .ok (.invokestatic 95, 3) := by decide +kernel
theorem dX11_advance_88 : decode cX11_advance 88 = .ok (.ifCond .eq 50, 3) := by decide +kernel
theorem dX11_advance_91 : decode cX11_advance 91 = .ok (.aload_n 0, 1) := by decide +kernel
theorem dX11_advance_92 : decode cX11_advance 92 = .ok (.getfield 82, 3) := by decide +kernel
theorem dX11_advance_95 : decode cX11_advance 95 = .ok (.aload_n 0, 1) := by decide +kernel
theorem dX11_advance_96 : decode cX11_advance 96 = .ok (.getfield 89, 3) := by decide +kernel
theorem dX11_advance_99 : decode cX11_advance 99 = .ok (.isub, 1) := by decide +kernel
theorem dX11_advance_100 : decode cX11_advance 100 = .ok (.bipush 8, 2) := by decide +kernel
theorem dX11_advance_102 : decode cX11_advance 102 = .ok (.if_icmp .ge 23, 3) := by decide +kernel
theorem dX11_advance_105 : decode cX11_advance 105 = .ok (.ldc2_w 99, 3) := by decide +kernel
theorem dX11_advance_108 : decode cX11_advance 108 = .ok (.lload_n 2, 1) := by decide +kernel
theorem dX11_advance_109 : decode cX11_advance 109 = .ok (.lmul, 1) := by decide +kernel
theorem dX11_advance_110 : decode cX11_advance 110 = .ok (.aload_n 0, 1) := by decide +kernel
theorem dX11_advance_111 : decode cX11_advance 111 = .ok (.aload_n 0, 1) := by decide +kernel
theorem dX11_advance_112 : decode cX11_advance 112 = .ok (.getfield 82, 3) := by decide +kernel
theorem dX11_advance_115 : decode cX11_advance 115 = .ok (.invokevirtual 85, 3) := by decide +kernel
theorem dX11_advance_118 : decode cX11_advance 118 = .ok (.i2l, 1) := by decide +kernel
theorem dX11_advance_119 : decode cX11_advance 119 = .ok (.ladd, 1) := by decide +kernel
theorem dX11_advance_120 : decode cX11_advance 120 = .ok (.ldc2_w 101, 3) := by decide +kernel
theorem dX11_advance_123 : decode cX11_advance 123 = .ok (.lsub, 1) := by decide +kernel
theorem dX11_advance_124 : decode cX11_advance 124 = .ok (.lstore_n 2, 1) := by decide +kernel
theorem dX11_advance_125 : decode cX11_advance 125 = .ok (.aload_n 0, 1) := by decide +kernel
theorem dX11_advance_126 : decode cX11_advance 126 = .ok (.dup, 1) := by decide +kernel
theorem dX11_advance_127 : decode cX11_advance 127 = .ok (.getfield 82, 3) := by decide +kernel
theorem dX11_advance_130 : decode cX11_advance 130 = .ok (.iconst 1, 1) := by decide +kernel
theorem dX11_advance_131 : decode cX11_advance 131 = .ok (.iadd, 1) := by decide +kernel
theorem dX11_advance_132 : decode cX11_advance 132 = .ok (.putfield 82, 3) := by decide +kernel
theorem dX11_advance_135 : decode cX11_advance 135 = .ok (.goto (-58), 3) := by decide +kernel
theorem dX11_advance_138 : decode cX11_advance 138 = .ok (.aload_n 0, 1) := by decide +kernel
theorem dX11_advance_139 : decode cX11_advance 139 = .ok (.aload_n 0, 1) := by decide +kernel
theorem dX11_advance_140 : decode cX11_advance 140 = .ok (.getfield 82, 3) := by decide +kernel
theorem dX11_advance_143 : decode cX11_advance 143 = .ok (.aload_n 0, 1) := by decide +kernel
theorem dX11_advance_144 : decode cX11_advance 144 = .ok (.getfield 89, 3) := by decide +kernel
theorem dX11_advance_147 : decode cX11_advance 147 = .ok (.isub, 1) := by decide +kernel
theorem dX11_advance_148 : decode cX11_advance 148 = .ok (.bipush 8, 2) := by decide +kernel
theorem dX11_advance_150 : decode cX11_advance 150 = .ok (.if_icmp .le 8, 3) := by decide +kernel
theorem dX11_advance_153 : decode cX11_advance 153 = .ok (.bipush 99, 2) := by decide +kernel
theorem dX11_advance_155 : decode cX11_advance 155 = .ok (.goto 7, 3) := by decide +kernel
theorem dX11_advance_158 : decode cX11_advance 158 = .ok (.lload_n 2, 1) := by decide +kernel
theorem dX11_advance_159 : decode cX11_advance 159 = .ok (.invokestatic 103, 3) := by decide +kernel
theorem dX11_advance_162 : decode cX11_advance 162 = .ok (.putfield 107, 3) := by decide +kernel
theorem dX11_advance_165 : decode cX11_advance 165 = .ok (.aload_n 0, 1) := by decide +kernel
theorem dX11_advance_166 : decode cX11_advance 166 = .ok (.aload_n 0, 1) := by decide +kernel
theorem dX11_advance_167 : decode cX11_advance 167 = .ok (.getfield 107, 3) := by decide +kernel
theorem dX11_advance_170 : decode cX11_advance 170 = .ok (.bipush 99, 2) := by decide +kernel
theorem dX11_advance_172 : decode cX11_advance 172 = .ok (.if_icmp .ne 7, 3) := by decide +kernel
theorem dX11_advance_175 : decode cX11_advance 175 = .ok (.iconst 4, 1) := by decide +kernel
theorem dX11_advance_176 : decode cX11_advance 176 = .ok (.goto 4, 3) := by decide +kernel
theorem dX11_advance_179 : decode cX11_advance 179 = .ok (.iconst 3, 1) := by decide +kernel
theorem dX11_advance_180 : decode cX11_advance 180 = .ok (.putfield 92, 3) := by decide +kernel
theorem dX11_advance_183 : decode cX11_advance 183 = .ok (.goto 128, 3) := by decide +kernel
theorem dX11_advance_186 : decode cX11_advance 186 = .ok (.iload_n 1, 1) := by decide +kernel
theorem dX11_advance_187 : decode cX11_advance 187 = .ok (.invokestatic 110, 3) := by decide +kernel
theorem dX11_advance_190 : decode cX11_advance 190 = .ok (.ifCond .eq 96, 3) := by decide +kernel
theorem dX11_advance_193 : decode cX11_advance 193 = .ok (.aload_n 0, 1) := by decide +kernel
theorem dX11_advance_194 : decode cX11_advance 194 = .ok (.iconst 0, 1) := by decide +kernel
theorem dX11_advance_195 : decode cX11_advance 195 = .ok (.putfield 113, 3) := by decide +kernel
theorem dX11_advance_198 : decode cX11_advance 198 = .ok (.aload_n 0, 1) := by decide +kernel
theorem dX11_advance_199 : decode cX11_advance 199 = .ok (.aload_n 0, 1) := by decide +kernel
theorem dX11_advance_200 : decode cX11_advance 200 = .ok (.getfield 82, 3) := by decide +kernel
theorem dX11_advance_203 : decode cX11_advance 203 = .ok (.invokevirtual 85, 3) := by decide +kernel
theorem dX11_advance_206 : decode cX11_advance 206 = .ok (.invokestatic 110, 3) := by decide +kernel
theorem dX11_advance_209 : decode cX11_advance 209 = .ok (.ifCond .eq 52, 3) := by decide +kernel
theorem dX11_advance_212 : decode cX11_advance 212 = .ok (.aload_n 0, 1) := by decide +kernel
theorem dX11_advance_213 : decode cX11_advance 213 = .ok (.getfield 82, 3) := by decide +kernel
theorem dX11_advance_216 : decode cX11_advance 216 = .ok (.aload_n 0, 1) := by decide +kernel
theorem dX11_advance_217 : decode cX11_advance 217 = .ok (.getfield 89, 3) := by decide +kernel
theorem dX11_advance_220 : decode cX11_advance 220 = .ok (.isub, 1) := by decide +kernel
theorem dX11_advance_221 : decode cX11_advance 221 = .ok (.iconst 2, 1) := by decide +kernel
theorem dX11_advance_222 : decode cX11_advance 222 = .ok (.if_icmp .ge 26, 3) := by decide +kernel
theorem dX11_advance_225 : decode cX11_advance 225 = .ok (.aload_n 0, 1) := by decide +kernel
theorem dX11_advance_226 : decode cX11_advance 226 = .ok (.bipush 10, 2) := by decide +kernel
theorem dX11_advance_228 : decode cX11_advance 228 = .ok (.aload_n 0, 1) := by decide +kernel
theorem dX11_advance_229 : decode cX11_advance 229 = .ok (.getfield 113, 3) := by decide +kernel
theorem dX11_advance_232 : decode cX11_advance 232 = .ok (.imul, 1) := by decide +kernel
theorem dX11_advance_233 : decode cX11_advance 233 = .ok (.aload_n 0, 1) := by decide +kernel
theorem dX11_advance_234 : decode cX11_advance 234 = .ok (.aload_n 0, 1) := by decide +kernel
theorem dX11_advance_235 : decode cX11_advance 235 = .ok (.getfield 82, 3) := by decide +kernel
theorem dX11_advance_238 : decode cX11_advance 238 = .ok (.invokevirtual 85, 3) := by decide +kernel
theorem dX11_advance_241 : decode cX11_advance 241 = .ok (.iadd, 1) := by decide +kernel
theorem dX11_advance_242 : decode cX11_advance 242 = .ok (.bipush 48, 2) := by decide +kernel
theorem dX11_advance_244 : decode cX11_advance 244 = .ok (.isub, 1) := by decide +kernel
theorem dX11_advance_245 : decode cX11_advance 245 = .ok (.putfield 113, 3) := by decide +kernel
theorem dX11_advance_248 : decode cX11_advance 248 = .ok (.aload_n 0, 1) := by decide +kernel
theorem dX11_advance_249 : decode cX11_advance 249 = .ok (.dup, 1) := by decide +kernel
theorem dX11_advance_250 : decode cX11_advance 250 = .ok (.getfield 82, 3) := by decide +kernel
theorem dX11_advance_253 : decode cX11_advance 253 = .ok (.iconst 1, 1) := by decide +kernel
theorem dX11_advance_254 : decode cX11_advance 254 = .ok (.iadd, 1) := by decide +kernel
theorem dX11_advance_255 : decode cX11_advance 255 = .ok (.putfield 82, 3) := by decide +kernel
theorem dX11_advance_258 : decode cX11_advance 258 = .ok (.goto (-60), 3) := by decide +kernel
theorem dX11_advance_261 : decode cX11_advance 261 = .ok (.aload_n 0, 1) := by decide +kernel
theorem dX11_advance_262 : decode cX11_advance 262 = .ok (.aload_n 0, 1) := by decide +kernel
theorem dX11_advance_263 : decode cX11_advance 263 = .ok (.getfield 82, 3) := by decide +kernel
theorem dX11_advance_266 : decode cX11_advance 266 = .ok (.aload_n 0, 1) := by decide +kernel
theorem dX11_advance_267 : decode cX11_advance 267 = .ok (.getfield 89, 3) := by decide +kernel
theorem dX11_advance_270 : decode cX11_advance 270 = .ok (.isub, 1) := by decide +kernel
theorem dX11_advance_271 : decode cX11_advance 271 = .ok (.iconst 2, 1) := by decide +kernel
theorem dX11_advance_272 : decode cX11_advance 272 = .ok (.if_icmp .le 7, 3) := by decide +kernel
theorem dX11_advance_275 : decode cX11_advance 275 = .ok (.iconst 4, 1) := by decide +kernel
theorem dX11_advance_276 : decode cX11_advance 276 = .ok (.goto 4, 3) := by decide +kernel
theorem dX11_advance_279 : decode cX11_advance 279 = .ok (.iconst 1, 1) := by decide +kernel
theorem dX11_advance_280 : decode cX11_advance 280 = .ok (.putfield 92, 3) := by decide +kernel
theorem dX11_advance_283 : decode cX11_advance 283 = .ok (.goto 28, 3) := by decide +kernel
theorem dX11_advance_286 : decode cX11_advance 286 = .ok (.aload_n 0, 1) := by decide +kernel
theorem dX11_advance_287 : decode cX11_advance 287 = .ok (.dup, 1) := by decide +kernel
theorem dX11_advance_288 : decode cX11_advance 288 = .ok (.getfield 82, 3) := by decide +kernel
theorem dX11_advance_291 : decode cX11_advance 291 = .ok (.iconst 1, 1) := by decide +kernel
theorem dX11_advance_292 : decode cX11_advance 292 = .ok (.iadd, 1) := by decide +kernel
theorem dX11_advance_293 : decode cX11_advance 293 = .ok (.putfield 82, 3) := by decide +kernel
theorem dX11_advance_296 : decode cX11_advance 296 = .ok (.aload_n 0, 1) := by decide +kernel
theorem dX11_advance_297 : decode cX11_advance 297 = .ok (.iload_n 1, 1) := by decide +kernel
theorem dX11_advance_298 : decode cX11_advance 298 = .ok (.bipush 59, 2) := by decide +kernel
theorem dX11_advance_300 : decode cX11_advance 300 = .ok (.if_icmp .ne 7, 3) := by decide +kernel
theorem dX11_advance_303 : decode cX11_advance 303 = .ok (.iconst 2, 1) := by decide +kernel
theorem dX11_advance_304 : decode cX11_advance 304 = .ok (.goto 4, 3) := by decide +kernel
theorem dX11_advance_307 : decode cX11_advance 307 = .ok (.iconst 4, 1) := by decide +kernel
theorem dX11_advance_308 : decode cX11_advance 308 = .ok (.putfield 92, 3) := by decide +kernel
theorem dX11_advance_311 : decode cX11_advance 311 = .ok (.return_, 1) := by decide +kernel
theorem dX11_ends_0 : decode cX11_ends 0 = .ok (.aload_n 0, 1) := by decide +kernel
theorem dX11_ends_1 : decode cX11_ends 1 = .ok (.getfield 116, 3) := by decide +kernel
theorem dX11_ends_4 : decode cX11_ends 4 = .ok (.ifCond .eq 4, 3) := by decide +kernel
theorem dX11_ends_7 : decode cX11_ends 7 = .ok (.return_, 1) := by decide +kernel
theorem dX11_ends_8 : decode cX11_ends 8 = .ok (.aload_n 0, 1) := by decide +kernel
theorem dX11_ends_9 : decode cX11_ends 9 = .ok (.iconst 1, 1) := by decide +kernel
theorem dX11_ends_10 : decode cX11_ends 10 = .ok (.putfield 116, 3) := by decide +kernel
theorem dX11_ends_13 : decode cX11_ends 13 = .ok (.aload_n 0, 1) := by decide +kernel
theorem dX11_ends_14 : decode cX11_ends 14 = .ok (.getfield 7, 3) := by decide +kernel
theorem dX11_ends_17 : decode cX11_ends 17 = .ok (.iconst 5, 1) := by decide +kernel
theorem dX11_ends_18 : decode cX11_ends 18 = .ok (.iconst 1, 1) := by decide +kernel
theorem dX11_ends_19 : decode cX11_ends 19 = .ok (.iastore, 1) := by decide +kernel
theorem dX11_ends_20 : decode cX11_ends 20 = .ok (.aload_n 0, 1) := by decide +kernel
theorem dX11_ends_21 : decode cX11_ends 21 = .ok (.getfield 7, 3) := by decide +kernel
theorem dX11_ends_24 : decode cX11_ends 24 = .ok (.bipush 6, 2) := by decide +kernel
theorem dX11_ends_26 : decode cX11_ends 26 = .ok (.aload_n 0, 1) := by decide +kernel
theorem dX11_ends_27 : decode cX11_ends 27 = .ok (.getfield 89, 3) := by decide +kernel
theorem dX11_ends_30 : decode cX11_ends 30 = .ok (.iastore, 1) := by decide +kernel
theorem dX11_ends_31 : decode cX11_ends 31 = .ok (.return_, 1) := by decide +kernel
theorem dX11_also_0 : decode cX11_also 0 = .ok (.aload_n 0, 1) := by decide +kernel
theorem dX11_also_1 : decode cX11_also 1 = .ok (.getfield 116, 3) := by decide +kernel
theorem dX11_also_4 : decode cX11_also 4 = .ok (.ifCond .ne 44, 3) := by decide +kernel
theorem dX11_also_7 : decode cX11_also 7 = .ok (.aload_n 0, 1) := by decide +kernel
theorem dX11_also_8 : decode cX11_also 8 = .ok (.getfield 7, 3) := by decide +kernel
theorem dX11_also_11 : decode cX11_also 11 = .ok (.iconst 5, 1) := by decide +kernel
theorem dX11_also_12 : decode cX11_also 12 = .ok (.iaload, 1) := by decide +kernel
theorem dX11_also_13 : decode cX11_also 13 = .ok (.ifCond .eq 36, 3) := by decide +kernel
theorem dX11_also_16 : decode cX11_also 16 = .ok (.aload_n 0, 1) := by decide +kernel
theorem dX11_also_17 : decode cX11_also 17 = .ok (.getfield 7, 3) := by decide +kernel
theorem dX11_also_20 : decode cX11_also 20 = .ok (.bipush 6, 2) := by decide +kernel
theorem dX11_also_22 : decode cX11_also 22 = .ok (.iaload, 1) := by decide +kernel
theorem dX11_also_23 : decode cX11_also 23 = .ok (.iload_n 2, 1) := by decide +kernel
theorem dX11_also_24 : decode cX11_also 24 = .ok (.if_icmp .lt 24, 3) := by decide +kernel
theorem dX11_also_27 : decode cX11_also 27 = .ok (.aload_n 0, 1) := by decide +kernel
theorem dX11_also_28 : decode cX11_also 28 = .ok (.getfield 7, 3) := by decide +kernel
theorem dX11_also_31 : decode cX11_also 31 = .ok (.bipush 6, 2) := by decide +kernel
theorem dX11_also_33 : decode cX11_also 33 = .ok (.iaload, 1) := by decide +kernel
theorem dX11_also_34 : decode cX11_also 34 = .ok (.iload_n 2, 1) := by decide +kernel
theorem dX11_also_35 : decode cX11_also 35 = .ok (.if_icmp .ne 14, 3) := by decide +kernel
theorem dX11_also_38 : decode cX11_also 38 = .ok (.aload_n 0, 1) := by decide +kernel
theorem dX11_also_39 : decode cX11_also 39 = .ok (.getfield 7, 3) := by decide +kernel
theorem dX11_also_42 : decode cX11_also 42 = .ok (.iconst 5, 1) := by decide +kernel
theorem dX11_also_43 : decode cX11_also 43 = .ok (.iaload, 1) := by decide +kernel
theorem dX11_also_44 : decode cX11_also 44 = .ok (.iload_n 1, 1) := by decide +kernel
theorem dX11_also_45 : decode cX11_also 45 = .ok (.if_icmp .gt 4, 3) := by decide +kernel
theorem dX11_also_48 : decode cX11_also 48 = .ok (.return_, 1) := by decide +kernel
theorem dX11_also_49 : decode cX11_also 49 = .ok (.aload_n 0, 1) := by decide +kernel
theorem dX11_also_50 : decode cX11_also 50 = .ok (.getfield 7, 3) := by decide +kernel
theorem dX11_also_53 : decode cX11_also 53 = .ok (.iconst 5, 1) := by decide +kernel
theorem dX11_also_54 : decode cX11_also 54 = .ok (.iload_n 1, 1) := by decide +kernel
theorem dX11_also_55 : decode cX11_also 55 = .ok (.iastore, 1) := by decide +kernel
theorem dX11_also_56 : decode cX11_also 56 = .ok (.aload_n 0, 1) := by decide +kernel
theorem dX11_also_57 : decode cX11_also 57 = .ok (.getfield 7, 3) := by decide +kernel
theorem dX11_also_60 : decode cX11_also 60 = .ok (.bipush 6, 2) := by decide +kernel
theorem dX11_also_62 : decode cX11_also 62 = .ok (.iload_n 2, 1) := by decide +kernel
theorem dX11_also_63 : decode cX11_also 63 = .ok (.iastore, 1) := by decide +kernel
theorem dX11_also_64 : decode cX11_also 64 = .ok (.return_, 1) := by decide +kernel
theorem dX11_numbered_0 : decode cX11_numbered 0 = .ok (.aload_n 0, 1) := by decide +kernel
theorem dX11_numbered_1 : decode cX11_numbered 1 = .ok (.getfield 116, 3) := by decide +kernel
theorem dX11_numbered_4 : decode cX11_numbered 4 = .ok (.ifCond .ne 11, 3) := by decide +kernel
theorem dX11_numbered_7 : decode cX11_numbered 7 = .ok (.aload_n 0, 1) := by decide +kernel
theorem dX11_numbered_8 : decode cX11_numbered 8 = .ok (.getfield 92, 3) := by decide +kernel
theorem dX11_numbered_11 : decode cX11_numbered 11 = .ok (.iconst 1, 1) := by decide +kernel
theorem dX11_numbered_12 : decode cX11_numbered 12 = .ok (.if_icmp .eq 9, 3) := by decide +kernel
theorem dX11_numbered_15 : decode cX11_numbered 15 = .ok (.aload_n 0, 1) := by decide +kernel
theorem dX11_numbered_16 : decode cX11_numbered 16 = .ok (.invokevirtual 120, 3) := by decide +kernel
theorem dX11_numbered_19 : decode cX11_numbered 19 = .ok (.iload_n 1, 1) := by decide +kernel
theorem dX11_numbered_20 : decode cX11_numbered 20 = .ok (.ireturn, 1) := by decide +kernel
theorem dX11_numbered_21 : decode cX11_numbered 21 = .ok (.aload_n 0, 1) := by decide +kernel
theorem dX11_numbered_22 : decode cX11_numbered 22 = .ok (.getfield 113, 3) := by decide +kernel
theorem dX11_numbered_25 : decode cX11_numbered 25 = .ok (.istore_n 3, 1) := by decide +kernel
theorem dX11_numbered_26 : decode cX11_numbered 26 = .ok (.iload_n 3, 1) := by decide +kernel
theorem dX11_numbered_27 : decode cX11_numbered 27 = .ok (.iload_n 1, 1) := by decide +kernel
theorem dX11_numbered_28 : decode cX11_numbered 28 = .ok (.iload_n 2, 1) := by decide +kernel
theorem dX11_numbered_29 : decode cX11_numbered 29 = .ok (.invokestatic 123, 3) := by decide +kernel
theorem dX11_numbered_32 : decode cX11_numbered 32 = .ok (.ifCond .ne 12, 3) := by decide +kernel
theorem dX11_numbered_35 : decode cX11_numbered 35 = .ok (.aload_n 0, 1) := by decide +kernel
theorem dX11_numbered_36 : decode cX11_numbered 36 = .ok (.iconst 2, 1) := by decide +kernel
theorem dX11_numbered_37 : decode cX11_numbered 37 = .ok (.aload_n 0, 1) := by decide +kernel
theorem dX11_numbered_38 : decode cX11_numbered 38 = .ok (.getfield 89, 3) := by decide +kernel
theorem dX11_numbered_41 : decode cX11_numbered 41 = .ok (.invokevirtual 127, 3) := by decide +kernel
theorem dX11_numbered_44 : decode cX11_numbered 44 = .ok (.aload_n 0, 1) := by decide +kernel
theorem dX11_numbered_45 : decode cX11_numbered 45 = .ok (.invokevirtual 131, 3) := by decide +kernel
theorem dX11_numbered_48 : decode cX11_numbered 48 = .ok (.iload_n 3, 1) := by decide +kernel
theorem dX11_numbered_49 : decode cX11_numbered 49 = .ok (.iload_n 1, 1) := by decide +kernel
theorem dX11_numbered_50 : decode cX11_numbered 50 = .ok (.iload_n 2, 1) := by decide +kernel
theorem dX11_numbered_51 : decode cX11_numbered 51 = .ok (.invokestatic 123, 3) := by decide +kernel
theorem dX11_numbered_54 : decode cX11_numbered 54 = .ok (.ifCond .eq 7, 3) := by decide +kernel
theorem dX11_numbered_57 : decode cX11_numbered 57 = .ok (.iload_n 3, 1) := by decide +kernel
theorem dX11_numbered_58 : decode cX11_numbered 58 = .ok (.goto 4, 3) := by decide +kernel
theorem dX11_numbered_61 : decode cX11_numbered 61 = .ok (.iload_n 1, 1) := by decide +kernel
theorem dX11_numbered_62 : decode cX11_numbered 62 = .ok (.ireturn, 1) := by decide +kernel
theorem dX11_wordIn_0 : decode cX11_wordIn 0 = .ok (.aload_n 0, 1) := by decide +kernel
theorem dX11_wordIn_1 : decode cX11_wordIn 1 = .ok (.getfield 116, 3) := by decide +kernel
theorem dX11_wordIn_4 : decode cX11_wordIn 4 = .ok (.ifCond .ne 23, 3) := by decide +kernel
theorem dX11_wordIn_7 : decode cX11_wordIn 7 = .ok (.aload_n 0, 1) := by decide +kernel
theorem dX11_wordIn_8 : decode cX11_wordIn 8 = .ok (.getfield 92, 3) := by decide +kernel
theorem dX11_wordIn_11 : decode cX11_wordIn 11 = .ok (.iconst 3, 1) := by decide +kernel
theorem dX11_wordIn_12 : decode cX11_wordIn 12 = .ok (.if_icmp .ne 15, 3) := by decide +kernel
theorem dX11_wordIn_15 : decode cX11_wordIn 15 = .ok (.aload_n 0, 1) := by decide +kernel
theorem dX11_wordIn_16 : decode cX11_wordIn 16 = .ok (.getfield 107, 3) := by decide +kernel
theorem dX11_wordIn_19 : decode cX11_wordIn 19 = .ok (.iload_n 1, 1) := by decide +kernel
theorem dX11_wordIn_20 : decode cX11_wordIn 20 = .ok (.iload_n 2, 1) := by decide +kernel
theorem dX11_wordIn_21 : decode cX11_wordIn 21 = .ok (.invokestatic 123, 3) := by decide +kernel
theorem dX11_wordIn_24 : decode cX11_wordIn 24 = .ok (.ifCond .ne 9, 3) := by decide +kernel
theorem dX11_wordIn_27 : decode cX11_wordIn 27 = .ok (.aload_n 0, 1) := by decide +kernel
theorem dX11_wordIn_28 : decode cX11_wordIn 28 = .ok (.invokevirtual 120, 3) := by decide +kernel
theorem dX11_wordIn_31 : decode cX11_wordIn 31 = .ok (.iconst 0, 1) := by decide +kernel
theorem dX11_wordIn_32 : decode cX11_wordIn 32 = .ok (.ireturn, 1) := by decide +kernel
theorem dX11_wordIn_33 : decode cX11_wordIn 33 = .ok (.aload_n 0, 1) := by decide +kernel
theorem dX11_wordIn_34 : decode cX11_wordIn 34 = .ok (.getfield 107, 3) := by decide +kernel
theorem dX11_wordIn_37 : decode cX11_wordIn 37 = .ok (.istore_n 3, 1) := by decide +kernel
theorem dX11_wordIn_38 : decode cX11_wordIn 38 = .ok (.aload_n 0, 1) := by decide +kernel
theorem dX11_wordIn_39 : decode cX11_wordIn 39 = .ok (.invokevirtual 131, 3) := by decide +kernel
theorem dX11_wordIn_42 : decode cX11_wordIn 42 = .ok (.iload_n 3, 1) := by decide +kernel
theorem dX11_wordIn_43 : decode cX11_wordIn 43 = .ok (.ireturn, 1) := by decide +kernel
theorem dX11_endsLine_0 : decode cX11_endsLine 0 = .ok (.aload_n 0, 1) := by decide +kernel
theorem dX11_endsLine_1 : decode cX11_endsLine 1 = .ok (.getfield 116, 3) := by decide +kernel
theorem dX11_endsLine_4 : decode cX11_endsLine 4 = .ok (.ifCond .ne 18, 3) := by decide +kernel
theorem dX11_endsLine_7 : decode cX11_endsLine 7 = .ok (.aload_n 0, 1) := by decide +kernel
theorem dX11_endsLine_8 : decode cX11_endsLine 8 = .ok (.getfield 92, 3) := by decide +kernel
theorem dX11_endsLine_11 : decode cX11_endsLine 11 = .ok (.iconst 2, 1) := by decide +kernel
theorem dX11_endsLine_12 : decode cX11_endsLine 12 = .ok (.if_icmp .ne 10, 3) := by decide +kernel
theorem dX11_endsLine_15 : decode cX11_endsLine 15 = .ok (.aload_n 0, 1) := by decide +kernel
theorem dX11_endsLine_16 : decode cX11_endsLine 16 = .ok (.invokevirtual 131, 3) := by decide +kernel
theorem dX11_endsLine_19 : decode cX11_endsLine 19 = .ok (.goto 7, 3) := by decide +kernel
theorem dX11_endsLine_22 : decode cX11_endsLine 22 = .ok (.aload_n 0, 1) := by decide +kernel
theorem dX11_endsLine_23 : decode cX11_endsLine 23 = .ok (.invokevirtual 120, 3) := by decide +kernel
theorem dX11_endsLine_26 : decode cX11_endsLine 26 = .ok (.return_, 1) := by decide +kernel
theorem dX11_above_0 : decode cX11_above 0 = .ok (.aload_n 0, 1) := by decide +kernel
theorem dX11_above_1 : decode cX11_above 1 = .ok (.getfield 89, 3) := by decide +kernel
theorem dX11_above_4 : decode cX11_above 4 = .ok (.istore_n 3, 1) := by decide +kernel
theorem dX11_above_5 : decode cX11_above 5 = .ok (.aload_n 0, 1) := by decide +kernel
theorem dX11_above_6 : decode cX11_above 6 = .ok (.getfield 116, 3) := by decide +kernel
theorem dX11_above_9 : decode cX11_above 9 = .ok (.ifCond .ne 23, 3) := by decide +kernel
theorem dX11_above_12 : decode cX11_above 12 = .ok (.aload_n 0, 1) := by decide +kernel
theorem dX11_above_13 : decode cX11_above 13 = .ok (.getfield 92, 3) := by decide +kernel
theorem dX11_above_16 : decode cX11_above 16 = .ok (.iconst 1, 1) := by decide +kernel
theorem dX11_above_17 : decode cX11_above 17 = .ok (.if_icmp .ne 15, 3) := by decide +kernel
theorem dX11_above_20 : decode cX11_above 20 = .ok (.aload_n 0, 1) := by decide +kernel
theorem dX11_above_21 : decode cX11_above 21 = .ok (.getfield 113, 3) := by decide +kernel
theorem dX11_above_24 : decode cX11_above 24 = .ok (.iload_n 1, 1) := by decide +kernel
theorem dX11_above_25 : decode cX11_above 25 = .ok (.if_icmp .ge 7, 3) := by decide +kernel
theorem dX11_above_28 : decode cX11_above 28 = .ok (.iconst 1, 1) := by decide +kernel
theorem dX11_above_29 : decode cX11_above 29 = .ok (.goto 4, 3) := by decide +kernel
theorem dX11_above_32 : decode cX11_above 32 = .ok (.iconst 0, 1) := by decide +kernel
theorem dX11_above_33 : decode cX11_above 33 = .ok (.istore 4, 2) := by decide +kernel
theorem dX11_above_35 : decode cX11_above 35 = .ok (.aload_n 0, 1) := by decide +kernel
theorem dX11_above_36 : decode cX11_above 36 = .ok (.iconst 1, 1) := by decide +kernel
theorem dX11_above_37 : decode cX11_above 37 = .ok (.iload_n 2, 1) := by decide +kernel
theorem dX11_above_38 : decode cX11_above 38 = .ok (.invokevirtual 134, 3) := by decide +kernel
theorem dX11_above_41 : decode cX11_above 41 = .ok (.istore 5, 2) := by decide +kernel
theorem dX11_above_43 : decode cX11_above 43 = .ok (.iload 4, 2) := by decide +kernel
theorem dX11_above_45 : decode cX11_above 45 = .ok (.ifCond .eq 9, 3) := by decide +kernel
theorem dX11_above_48 : decode cX11_above 48 = .ok (.aload_n 0, 1) := by decide +kernel
theorem dX11_above_49 : decode cX11_above 49 = .ok (.iconst 2, 1) := by decide +kernel
theorem dX11_above_50 : decode cX11_above 50 = .ok (.iload_n 3, 1) := by decide +kernel
theorem dX11_above_51 : decode cX11_above 51 = .ok (.invokevirtual 127, 3) := by decide +kernel
theorem dX11_above_54 : decode cX11_above 54 = .ok (.iload 5, 2) := by decide +kernel
theorem dX11_above_56 : decode cX11_above 56 = .ok (.ireturn, 1) := by decide +kernel
theorem dX11_floorTold_0 : decode cX11_floorTold 0 = .ok (.aload_n 0, 1) := by decide +kernel
theorem dX11_floorTold_1 : decode cX11_floorTold 1 = .ok (.getfield 17, 3) := by decide +kernel
theorem dX11_floorTold_4 : decode cX11_floorTold 4 = .ok (.iconst 0, 1) := by decide +kernel
theorem dX11_floorTold_5 : decode cX11_floorTold 5 = .ok (.iaload, 1) := by decide +kernel
theorem dX11_floorTold_6 : decode cX11_floorTold 6 = .ok (.bipush 6, 2) := by decide +kernel
theorem dX11_floorTold_8 : decode cX11_floorTold 8 = .ok (.if_icmp .lt 9, 3) := by decide +kernel
theorem dX11_floorTold_11 : decode cX11_floorTold 11 = .ok (.aload_n 0, 1) := by decide +kernel
theorem dX11_floorTold_12 : decode cX11_floorTold 12 = .ok (.iconst 3, 1) := by decide +kernel
theorem dX11_floorTold_13 : decode cX11_floorTold 13 = .ok (.iload_n 1, 1) := by decide +kernel
theorem dX11_floorTold_14 : decode cX11_floorTold 14 = .ok (.invokevirtual 127, 3) := by decide +kernel
theorem dX11_floorTold_17 : decode cX11_floorTold 17 = .ok (.aload_n 0, 1) := by decide +kernel
theorem dX11_floorTold_18 : decode cX11_floorTold 18 = .ok (.iconst 0, 1) := by decide +kernel
theorem dX11_floorTold_19 : decode cX11_floorTold 19 = .ok (.bipush 20, 2) := by decide +kernel
theorem dX11_floorTold_21 : decode cX11_floorTold 21 = .ok (.invokevirtual 134, 3) := by decide +kernel
theorem dX11_floorTold_24 : decode cX11_floorTold 24 = .ok (.istore_n 2, 1) := by decide +kernel
theorem dX11_floorTold_25 : decode cX11_floorTold 25 = .ok (.aload_n 0, 1) := by decide +kernel
theorem dX11_floorTold_26 : decode cX11_floorTold 26 = .ok (.iconst 1, 1) := by decide +kernel
theorem dX11_floorTold_27 : decode cX11_floorTold 27 = .ok (.bipush 9, 2) := by decide +kernel
theorem dX11_floorTold_29 : decode cX11_floorTold 29 = .ok (.invokevirtual 134, 3) := by decide +kernel
theorem dX11_floorTold_32 : decode cX11_floorTold 32 = .ok (.istore_n 3, 1) := by decide +kernel
theorem dX11_floorTold_33 : decode cX11_floorTold 33 = .ok (.aload_n 0, 1) := by decide +kernel
theorem dX11_floorTold_34 : decode cX11_floorTold 34 = .ok (.getfield 17, 3) := by decide +kernel
theorem dX11_floorTold_37 : decode cX11_floorTold 37 = .ok (.iconst 0, 1) := by decide +kernel
theorem dX11_floorTold_38 : decode cX11_floorTold 38 = .ok (.iaload, 1) := by decide +kernel
theorem dX11_floorTold_39 : decode cX11_floorTold 39 = .ok (.bipush 6, 2) := by decide +kernel
theorem dX11_floorTold_41 : decode cX11_floorTold 41 = .ok (.if_icmp .lt 4, 3) := by decide +kernel
theorem dX11_floorTold_44 : decode cX11_floorTold 44 = .ok (.return_, 1) := by decide +kernel
theorem dX11_floorTold_45 : decode cX11_floorTold 45 = .ok (.aload_n 0, 1) := by decide +kernel
theorem dX11_floorTold_46 : decode cX11_floorTold 46 = .ok (.getfield 17, 3) := by decide +kernel
theorem dX11_floorTold_49 : decode cX11_floorTold 49 = .ok (.iconst 5, 1) := by decide +kernel
theorem dX11_floorTold_50 : decode cX11_floorTold 50 = .ok (.iconst 2, 1) := by decide +kernel
theorem dX11_floorTold_51 : decode cX11_floorTold 51 = .ok (.aload_n 0, 1) := by decide +kernel
theorem dX11_floorTold_52 : decode cX11_floorTold 52 = .ok (.getfield 17, 3) := by decide +kernel
theorem dX11_floorTold_55 : decode cX11_floorTold 55 = .ok (.iconst 0, 1) := by decide +kernel
theorem dX11_floorTold_56 : decode cX11_floorTold 56 = .ok (.iaload, 1) := by decide +kernel
theorem dX11_floorTold_57 : decode cX11_floorTold 57 = .ok (.imul, 1) := by decide +kernel
theorem dX11_floorTold_58 : decode cX11_floorTold 58 = .ok (.iadd, 1) := by decide +kernel
theorem dX11_floorTold_59 : decode cX11_floorTold 59 = .ok (.iload_n 2, 1) := by decide +kernel
theorem dX11_floorTold_60 : decode cX11_floorTold 60 = .ok (.iastore, 1) := by decide +kernel
theorem dX11_floorTold_61 : decode cX11_floorTold 61 = .ok (.aload_n 0, 1) := by decide +kernel
theorem dX11_floorTold_62 : decode cX11_floorTold 62 = .ok (.getfield 17, 3) := by decide +kernel
theorem dX11_floorTold_65 : decode cX11_floorTold 65 = .ok (.bipush 6, 2) := by decide +kernel
theorem dX11_floorTold_67 : decode cX11_floorTold 67 = .ok (.iconst 2, 1) := by decide +kernel
theorem dX11_floorTold_68 : decode cX11_floorTold 68 = .ok (.aload_n 0, 1) := by decide +kernel
theorem dX11_floorTold_69 : decode cX11_floorTold 69 = .ok (.getfield 17, 3) := by decide +kernel
theorem dX11_floorTold_72 : decode cX11_floorTold 72 = .ok (.iconst 0, 1) := by decide +kernel
theorem dX11_floorTold_73 : decode cX11_floorTold 73 = .ok (.iaload, 1) := by decide +kernel
theorem dX11_floorTold_74 : decode cX11_floorTold 74 = .ok (.imul, 1) := by decide +kernel
theorem dX11_floorTold_75 : decode cX11_floorTold 75 = .ok (.iadd, 1) := by decide +kernel
theorem dX11_floorTold_76 : decode cX11_floorTold 76 = .ok (.iload_n 3, 1) := by decide +kernel
theorem dX11_floorTold_77 : decode cX11_floorTold 77 = .ok (.iastore, 1) := by decide +kernel
theorem dX11_floorTold_78 : decode cX11_floorTold 78 = .ok (.aload_n 0, 1) := by decide +kernel
theorem dX11_floorTold_79 : decode cX11_floorTold 79 = .ok (.getfield 17, 3) := by decide +kernel
theorem dX11_floorTold_82 : decode cX11_floorTold 82 = .ok (.iconst 0, 1) := by decide +kernel
theorem dX11_floorTold_83 : decode cX11_floorTold 83 = .ok (.dup2, 1) := by decide +kernel
theorem dX11_floorTold_84 : decode cX11_floorTold 84 = .ok (.iaload, 1) := by decide +kernel
theorem dX11_floorTold_85 : decode cX11_floorTold 85 = .ok (.iconst 1, 1) := by decide +kernel
theorem dX11_floorTold_86 : decode cX11_floorTold 86 = .ok (.iadd, 1) := by decide +kernel
theorem dX11_floorTold_87 : decode cX11_floorTold 87 = .ok (.iastore, 1) := by decide +kernel
theorem dX11_floorTold_88 : decode cX11_floorTold 88 = .ok (.return_, 1) := by decide +kernel
theorem dX11_barTold_0 : decode cX11_barTold 0 = .ok (.aload_n 0, 1) := by decide +kernel
theorem dX11_barTold_1 : decode cX11_barTold 1 = .ok (.getfield 17, 3) := by decide +kernel
theorem dX11_barTold_4 : decode cX11_barTold 4 = .ok (.iconst 1, 1) := by decide +kernel
theorem dX11_barTold_5 : decode cX11_barTold 5 = .ok (.iaload, 1) := by decide +kernel
theorem dX11_barTold_6 : decode cX11_barTold 6 = .ok (.bipush 8, 2) := by decide +kernel
theorem dX11_barTold_8 : decode cX11_barTold 8 = .ok (.if_icmp .lt 9, 3) := by decide +kernel
theorem dX11_barTold_11 : decode cX11_barTold 11 = .ok (.aload_n 0, 1) := by decide +kernel
theorem dX11_barTold_12 : decode cX11_barTold 12 = .ok (.iconst 3, 1) := by decide +kernel
theorem dX11_barTold_13 : decode cX11_barTold 13 = .ok (.iload_n 1, 1) := by decide +kernel
theorem dX11_barTold_14 : decode cX11_barTold 14 = .ok (.invokevirtual 127, 3) := by decide +kernel
theorem dX11_barTold_17 : decode cX11_barTold 17 = .ok (.aload_n 0, 1) := by decide +kernel
theorem dX11_barTold_18 : decode cX11_barTold 18 = .ok (.iconst 0, 1) := by decide +kernel
theorem dX11_barTold_19 : decode cX11_barTold 19 = .ok (.bipush 9, 2) := by decide +kernel
theorem dX11_barTold_21 : decode cX11_barTold 21 = .ok (.invokevirtual 134, 3) := by decide +kernel
theorem dX11_barTold_24 : decode cX11_barTold 24 = .ok (.istore_n 2, 1) := by decide +kernel
theorem dX11_barTold_25 : decode cX11_barTold 25 = .ok (.aload_n 0, 1) := by decide +kernel
theorem dX11_barTold_26 : decode cX11_barTold 26 = .ok (.iconst 1, 1) := by decide +kernel
theorem dX11_barTold_27 : decode cX11_barTold 27 = .ok (.iconst 4, 1) := by decide +kernel
theorem dX11_barTold_28 : decode cX11_barTold 28 = .ok (.invokevirtual 134, 3) := by decide +kernel
theorem dX11_barTold_31 : decode cX11_barTold 31 = .ok (.istore_n 3, 1) := by decide +kernel
theorem dX11_barTold_32 : decode cX11_barTold 32 = .ok (.aload_n 0, 1) := by decide +kernel
theorem dX11_barTold_33 : decode cX11_barTold 33 = .ok (.iconst 0, 1) := by decide +kernel
theorem dX11_barTold_34 : decode cX11_barTold 34 = .ok (.iconst 5, 1) := by decide +kernel
theorem dX11_barTold_35 : decode cX11_barTold 35 = .ok (.invokevirtual 134, 3) := by decide +kernel
theorem dX11_barTold_38 : decode cX11_barTold 38 = .ok (.istore 4, 2) := by decide +kernel
theorem dX11_barTold_40 : decode cX11_barTold 40 = .ok (.aload_n 0, 1) := by decide +kernel
theorem dX11_barTold_41 : decode cX11_barTold 41 = .ok (.iconst 0, 1) := by decide +kernel
theorem dX11_barTold_42 : decode cX11_barTold 42 = .ok (.bipush 10, 2) := by decide +kernel
theorem dX11_barTold_44 : decode cX11_barTold 44 = .ok (.invokevirtual 134, 3) := by decide +kernel
theorem dX11_barTold_47 : decode cX11_barTold 47 = .ok (.istore 5, 2) := by decide +kernel
theorem dX11_barTold_49 : decode cX11_barTold 49 = .ok (.aload_n 0, 1) := by decide +kernel
theorem dX11_barTold_50 : decode cX11_barTold 50 = .ok (.iload 4, 2) := by decide +kernel
theorem dX11_barTold_52 : decode cX11_barTold 52 = .ok (.aload_n 0, 1) := by decide +kernel
theorem dX11_barTold_53 : decode cX11_barTold 53 = .ok (.getfield 138, 3) := by decide +kernel
theorem dX11_barTold_56 : decode cX11_barTold 56 = .ok (.if_icmp .le 8, 3) := by decide +kernel
theorem dX11_barTold_59 : decode cX11_barTold 59 = .ok (.iload 4, 2) := by decide +kernel
theorem dX11_barTold_61 : decode cX11_barTold 61 = .ok (.goto 7, 3) := by decide +kernel
theorem dX11_barTold_64 : decode cX11_barTold 64 = .ok (.aload_n 0, 1) := by decide +kernel
theorem dX11_barTold_65 : decode cX11_barTold 65 = .ok (.getfield 138, 3) := by decide +kernel
theorem dX11_barTold_68 : decode cX11_barTold 68 = .ok (.putfield 138, 3) := by decide +kernel
theorem dX11_barTold_71 : decode cX11_barTold 71 = .ok (.aload_n 0, 1) := by decide +kernel
theorem dX11_barTold_72 : decode cX11_barTold 72 = .ok (.getfield 17, 3) := by decide +kernel
theorem dX11_barTold_75 : decode cX11_barTold 75 = .ok (.iconst 1, 1) := by decide +kernel
theorem dX11_barTold_76 : decode cX11_barTold 76 = .ok (.iaload, 1) := by decide +kernel
theorem dX11_barTold_77 : decode cX11_barTold 77 = .ok (.bipush 8, 2) := by decide +kernel
theorem dX11_barTold_79 : decode cX11_barTold 79 = .ok (.if_icmp .lt 4, 3) := by decide +kernel
theorem dX11_barTold_82 : decode cX11_barTold 82 = .ok (.return_, 1) := by decide +kernel
theorem dX11_barTold_83 : decode cX11_barTold 83 = .ok (.bipush 17, 2) := by decide +kernel
theorem dX11_barTold_85 : decode cX11_barTold 85 = .ok (.iconst 4, 1) := by decide +kernel
theorem dX11_barTold_86 : decode cX11_barTold 86 = .ok (.aload_n 0, 1) := by decide +kernel
theorem dX11_barTold_87 : decode cX11_barTold 87 = .ok (.getfield 17, 3) := by decide +kernel
theorem dX11_barTold_90 : decode cX11_barTold 90 = .ok (.iconst 1, 1) := by decide +kernel
theorem dX11_barTold_91 : decode cX11_barTold 91 = .ok (.iaload, 1) := by decide +kernel
theorem dX11_barTold_92 : decode cX11_barTold 92 = .ok (.imul, 1) := by decide +kernel
theorem dX11_barTold_93 : decode cX11_barTold 93 = .ok (.iadd, 1) := by decide +kernel
theorem dX11_barTold_94 : decode cX11_barTold 94 = .ok (.istore 6, 2) := by decide +kernel
theorem dX11_barTold_96 : decode cX11_barTold 96 = .ok (.aload_n 0, 1) := by decide +kernel
theorem dX11_barTold_97 : decode cX11_barTold 97 = .ok (.getfield 17, 3) := by decide +kernel
theorem dX11_barTold_100 : decode cX11_barTold 100 = .ok (.iload 6, 2) := by decide +kernel
theorem dX11_barTold_102 : decode cX11_barTold 102 = .ok (.iload_n 2, 1) := by decide +kernel
theorem dX11_barTold_103 : decode cX11_barTold 103 = .ok (.iastore, 1) := by decide +kernel
theorem dX11_barTold_104 : decode cX11_barTold 104 = .ok (.aload_n 0, 1) := by decide +kernel
theorem dX11_barTold_105 : decode cX11_barTold 105 = .ok (.getfield 17, 3) := by decide +kernel
theorem dX11_barTold_108 : decode cX11_barTold 108 = .ok (.iload 6, 2) := by decide +kernel
theorem dX11_barTold_110 : decode cX11_barTold 110 = .ok (.iconst 1, 1) := by decide +kernel
theorem dX11_barTold_111 : decode cX11_barTold 111 = .ok (.iadd, 1) := by decide +kernel
theorem dX11_barTold_112 : decode cX11_barTold 112 = .ok (.iload_n 3, 1) := by decide +kernel
theorem dX11_barTold_113 : decode cX11_barTold 113 = .ok (.iastore, 1) := by decide +kernel
theorem dX11_barTold_114 : decode cX11_barTold 114 = .ok (.aload_n 0, 1) := by decide +kernel
theorem dX11_barTold_115 : decode cX11_barTold 115 = .ok (.getfield 17, 3) := by decide +kernel
theorem dX11_barTold_118 : decode cX11_barTold 118 = .ok (.iload 6, 2) := by decide +kernel
theorem dX11_barTold_120 : decode cX11_barTold 120 = .ok (.iconst 2, 1) := by decide +kernel
theorem dX11_barTold_121 : decode cX11_barTold 121 = .ok (.iadd, 1) := by decide +kernel
theorem dX11_barTold_122 : decode cX11_barTold 122 = .ok (.iload 4, 2) := by decide +kernel
theorem dX11_barTold_124 : decode cX11_barTold 124 = .ok (.iastore, 1) := by decide +kernel
theorem dX11_barTold_125 : decode cX11_barTold 125 = .ok (.aload_n 0, 1) := by decide +kernel
theorem dX11_barTold_126 : decode cX11_barTold 126 = .ok (.getfield 17, 3) := by decide +kernel
theorem dX11_barTold_129 : decode cX11_barTold 129 = .ok (.iload 6, 2) := by decide +kernel
theorem dX11_barTold_131 : decode cX11_barTold 131 = .ok (.iconst 3, 1) := by decide +kernel
theorem dX11_barTold_132 : decode cX11_barTold 132 = .ok (.iadd, 1) := by decide +kernel
theorem dX11_barTold_133 : decode cX11_barTold 133 = .ok (.iload 5, 2) := by decide +kernel
theorem dX11_barTold_135 : decode cX11_barTold 135 = .ok (.iastore, 1) := by decide +kernel
theorem dX11_barTold_136 : decode cX11_barTold 136 = .ok (.aload_n 0, 1) := by decide +kernel
theorem dX11_barTold_137 : decode cX11_barTold 137 = .ok (.getfield 17, 3) := by decide +kernel
theorem dX11_barTold_140 : decode cX11_barTold 140 = .ok (.iconst 1, 1) := by decide +kernel
theorem dX11_barTold_141 : decode cX11_barTold 141 = .ok (.dup2, 1) := by decide +kernel
theorem dX11_barTold_142 : decode cX11_barTold 142 = .ok (.iaload, 1) := by decide +kernel
theorem dX11_barTold_143 : decode cX11_barTold 143 = .ok (.iconst 1, 1) := by decide +kernel
theorem dX11_barTold_144 : decode cX11_barTold 144 = .ok (.iadd, 1) := by decide +kernel
theorem dX11_barTold_145 : decode cX11_barTold 145 = .ok (.iastore, 1) := by decide +kernel
theorem dX11_barTold_146 : decode cX11_barTold 146 = .ok (.return_, 1) := by decide +kernel
theorem dX11_singerTold_0 : decode cX11_singerTold 0 = .ok (.aload_n 0, 1) := by decide +kernel
theorem dX11_singerTold_1 : decode cX11_singerTold 1 = .ok (.getfield 17, 3) := by decide +kernel
theorem dX11_singerTold_4 : decode cX11_singerTold 4 = .ok (.iconst 2, 1) := by decide +kernel
theorem dX11_singerTold_5 : decode cX11_singerTold 5 = .ok (.iaload, 1) := by decide +kernel
theorem dX11_singerTold_6 : decode cX11_singerTold 6 = .ok (.iconst 5, 1) := by decide +kernel
theorem dX11_singerTold_7 : decode cX11_singerTold 7 = .ok (.if_icmp .lt 9, 3) := by decide +kernel
theorem dX11_singerTold_10 : decode cX11_singerTold 10 = .ok (.aload_n 0, 1) := by decide +kernel
theorem dX11_singerTold_11 : decode cX11_singerTold 11 = .ok (.iconst 3, 1) := by decide +kernel
theorem dX11_singerTold_12 : decode cX11_singerTold 12 = .ok (.iload_n 1, 1) := by decide +kernel
theorem dX11_singerTold_13 : decode cX11_singerTold 13 = .ok (.invokevirtual 127, 3) := by decide +kernel
theorem dX11_singerTold_16 : decode cX11_singerTold 16 = .ok (.aload_n 0, 1) := by decide +kernel
theorem dX11_singerTold_17 : decode cX11_singerTold 17 = .ok (.iconst 1, 1) := by decide +kernel
theorem dX11_singerTold_18 : decode cX11_singerTold 18 = .ok (.bipush 9, 2) := by decide +kernel
theorem dX11_singerTold_20 : decode cX11_singerTold 20 = .ok (.invokevirtual 134, 3) := by decide +kernel
theorem dX11_singerTold_23 : decode cX11_singerTold 23 = .ok (.istore_n 2, 1) := by decide +kernel
theorem dX11_singerTold_24 : decode cX11_singerTold 24 = .ok (.aload_n 0, 1) := by decide +kernel
theorem dX11_singerTold_25 : decode cX11_singerTold 25 = .ok (.iload_n 2, 1) := by decide +kernel
theorem dX11_singerTold_26 : decode cX11_singerTold 26 = .ok (.bipush 9, 2) := by decide +kernel
theorem dX11_singerTold_28 : decode cX11_singerTold 28 = .ok (.invokevirtual 141, 3) := by decide +kernel
theorem dX11_singerTold_31 : decode cX11_singerTold 31 = .ok (.istore_n 3, 1) := by decide +kernel
theorem dX11_singerTold_32 : decode cX11_singerTold 32 = .ok (.aload_n 0, 1) := by decide +kernel
theorem dX11_singerTold_33 : decode cX11_singerTold 33 = .ok (.iconst 1, 1) := by decide +kernel
theorem dX11_singerTold_34 : decode cX11_singerTold 34 = .ok (.bipush 20, 2) := by decide +kernel
theorem dX11_singerTold_36 : decode cX11_singerTold 36 = .ok (.invokevirtual 134, 3) := by decide +kernel
theorem dX11_singerTold_39 : decode cX11_singerTold 39 = .ok (.istore 4, 2) := by decide +kernel
theorem dX11_singerTold_41 : decode cX11_singerTold 41 = .ok (.aload_n 0, 1) := by decide +kernel
theorem dX11_singerTold_42 : decode cX11_singerTold 42 = .ok (.getfield 17, 3) := by decide +kernel
theorem dX11_singerTold_45 : decode cX11_singerTold 45 = .ok (.iconst 2, 1) := by decide +kernel
theorem dX11_singerTold_46 : decode cX11_singerTold 46 = .ok (.iaload, 1) := by decide +kernel
theorem dX11_singerTold_47 : decode cX11_singerTold 47 = .ok (.iconst 5, 1) := by decide +kernel
theorem dX11_singerTold_48 : decode cX11_singerTold 48 = .ok (.if_icmp .lt 4, 3) := by decide +kernel
theorem dX11_singerTold_51 : decode cX11_singerTold 51 = .ok (.return_, 1) := by decide +kernel
theorem dX11_singerTold_52 : decode cX11_singerTold 52 = .ok (.bipush 49, 2) := by decide +kernel
theorem dX11_singerTold_54 : decode cX11_singerTold 54 = .ok (.iconst 3, 1) := by decide +kernel
theorem dX11_singerTold_55 : decode cX11_singerTold 55 = .ok (.aload_n 0, 1) := by decide +kernel
theorem dX11_singerTold_56 : decode cX11_singerTold 56 = .ok (.getfield 17, 3) := by decide +kernel
theorem dX11_singerTold_59 : decode cX11_singerTold 59 = .ok (.iconst 2, 1) := by decide +kernel
theorem dX11_singerTold_60 : decode cX11_singerTold 60 = .ok (.iaload, 1) := by decide +kernel
theorem dX11_singerTold_61 : decode cX11_singerTold 61 = .ok (.imul, 1) := by decide +kernel
theorem dX11_singerTold_62 : decode cX11_singerTold 62 = .ok (.iadd, 1) := by decide +kernel
theorem dX11_singerTold_63 : decode cX11_singerTold 63 = .ok (.istore 5, 2) := by decide +kernel
theorem dX11_singerTold_65 : decode cX11_singerTold 65 = .ok (.aload_n 0, 1) := by decide +kernel
theorem dX11_singerTold_66 : decode cX11_singerTold 66 = .ok (.getfield 17, 3) := by decide +kernel
theorem dX11_singerTold_69 : decode cX11_singerTold 69 = .ok (.iload 5, 2) := by decide +kernel
theorem dX11_singerTold_71 : decode cX11_singerTold 71 = .ok (.iload_n 2, 1) := by decide +kernel
theorem dX11_singerTold_72 : decode cX11_singerTold 72 = .ok (.iastore, 1) := by decide +kernel
theorem dX11_singerTold_73 : decode cX11_singerTold 73 = .ok (.aload_n 0, 1) := by decide +kernel
theorem dX11_singerTold_74 : decode cX11_singerTold 74 = .ok (.getfield 17, 3) := by decide +kernel
theorem dX11_singerTold_77 : decode cX11_singerTold 77 = .ok (.iload 5, 2) := by decide +kernel
theorem dX11_singerTold_79 : decode cX11_singerTold 79 = .ok (.iconst 1, 1) := by decide +kernel
theorem dX11_singerTold_80 : decode cX11_singerTold 80 = .ok (.iadd, 1) := by decide +kernel
theorem dX11_singerTold_81 : decode cX11_singerTold 81 = .ok (.iload_n 3, 1) := by decide +kernel
theorem dX11_singerTold_82 : decode cX11_singerTold 82 = .ok (.iastore, 1) := by decide +kernel
theorem dX11_singerTold_83 : decode cX11_singerTold 83 = .ok (.aload_n 0, 1) := by decide +kernel
theorem dX11_singerTold_84 : decode cX11_singerTold 84 = .ok (.getfield 17, 3) := by decide +kernel
theorem dX11_singerTold_87 : decode cX11_singerTold 87 = .ok (.iload 5, 2) := by decide +kernel
theorem dX11_singerTold_89 : decode cX11_singerTold 89 = .ok (.iconst 2, 1) := by decide +kernel
theorem dX11_singerTold_90 : decode cX11_singerTold 90 = .ok (.iadd, 1) := by decide +kernel
theorem dX11_singerTold_91 : decode cX11_singerTold 91 = .ok (.iload 4, 2) := by decide +kernel
theorem dX11_singerTold_93 : decode cX11_singerTold 93 = .ok (.iastore, 1) := by decide +kernel
theorem dX11_singerTold_94 : decode cX11_singerTold 94 = .ok (.aload_n 0, 1) := by decide +kernel
theorem dX11_singerTold_95 : decode cX11_singerTold 95 = .ok (.getfield 17, 3) := by decide +kernel
theorem dX11_singerTold_98 : decode cX11_singerTold 98 = .ok (.iconst 2, 1) := by decide +kernel
theorem dX11_singerTold_99 : decode cX11_singerTold 99 = .ok (.dup2, 1) := by decide +kernel
theorem dX11_singerTold_100 : decode cX11_singerTold 100 = .ok (.iaload, 1) := by decide +kernel
theorem dX11_singerTold_101 : decode cX11_singerTold 101 = .ok (.iconst 1, 1) := by decide +kernel
theorem dX11_singerTold_102 : decode cX11_singerTold 102 = .ok (.iadd, 1) := by decide +kernel
theorem dX11_singerTold_103 : decode cX11_singerTold 103 = .ok (.iastore, 1) := by decide +kernel
theorem dX11_singerTold_104 : decode cX11_singerTold 104 = .ok (.return_, 1) := by decide +kernel
theorem dX11_houseLine_0 : decode cX11_houseLine 0 = .ok (.aload_n 0, 1) := by decide +kernel
theorem dX11_houseLine_1 : decode cX11_houseLine 1 = .ok (.getfield 89, 3) := by decide +kernel
theorem dX11_houseLine_4 : decode cX11_houseLine 4 = .ok (.istore_n 1, 1) := by decide +kernel
theorem dX11_houseLine_5 : decode cX11_houseLine 5 = .ok (.aload_n 0, 1) := by decide +kernel
theorem dX11_houseLine_6 : decode cX11_houseLine 6 = .ok (.iconst 1, 1) := by decide +kernel
theorem dX11_houseLine_7 : decode cX11_houseLine 7 = .ok (.iconst 5, 1) := by decide +kernel
theorem dX11_houseLine_8 : decode cX11_houseLine 8 = .ok (.invokevirtual 144, 3) := by decide +kernel
theorem dX11_houseLine_11 : decode cX11_houseLine 11 = .ok (.istore_n 2, 1) := by decide +kernel
theorem dX11_houseLine_12 : decode cX11_houseLine 12 = .ok (.aload_n 0, 1) := by decide +kernel
theorem dX11_houseLine_13 : decode cX11_houseLine 13 = .ok (.getfield 116, 3) := by decide +kernel
theorem dX11_houseLine_16 : decode cX11_houseLine 16 = .ok (.ifCond .eq 7, 3) := by decide +kernel
theorem dX11_houseLine_19 : decode cX11_houseLine 19 = .ok (.iconst 0, 1) := by decide +kernel
theorem dX11_houseLine_20 : decode cX11_houseLine 20 = .ok (.goto 4, 3) := by decide +kernel
theorem dX11_houseLine_23 : decode cX11_houseLine 23 = .ok (.iload_n 2, 1) := by decide +kernel
theorem dX11_houseLine_24 : decode cX11_houseLine 24 = .ok (.tableswitch 119 1 5 #[36, 44, 52, 60, 76], 36) := by decide +kernel
theorem dX11_houseLine_60 : decode cX11_houseLine 60 = .ok (.aload_n 0, 1) := by decide +kernel
theorem dX11_houseLine_61 : decode cX11_houseLine 61 = .ok (.iload_n 1, 1) := by decide +kernel
theorem dX11_houseLine_62 : decode cX11_houseLine 62 = .ok (.invokevirtual 147, 3) := by decide +kernel
theorem dX11_houseLine_65 : decode cX11_houseLine 65 = .ok (.goto 78, 3) := by decide +kernel
theorem dX11_houseLine_68 : decode cX11_houseLine 68 = .ok (.aload_n 0, 1) := by decide +kernel
theorem dX11_houseLine_69 : decode cX11_houseLine 69 = .ok (.iload_n 1, 1) := by decide +kernel
theorem dX11_houseLine_70 : decode cX11_houseLine 70 = .ok (.invokevirtual 151, 3) := by decide +kernel
theorem dX11_houseLine_73 : decode cX11_houseLine 73 = .ok (.goto 70, 3) := by decide +kernel
theorem dX11_houseLine_76 : decode cX11_houseLine 76 = .ok (.aload_n 0, 1) := by decide +kernel
theorem dX11_houseLine_77 : decode cX11_houseLine 77 = .ok (.iload_n 1, 1) := by decide +kernel
theorem dX11_houseLine_78 : decode cX11_houseLine 78 = .ok (.invokevirtual 154, 3) := by decide +kernel
theorem dX11_houseLine_81 : decode cX11_houseLine 81 = .ok (.goto 62, 3) := by decide +kernel
theorem dX11_houseLine_84 : decode cX11_houseLine 84 = .ok (.aload_n 0, 1) := by decide +kernel
theorem dX11_houseLine_85 : decode cX11_houseLine 85 = .ok (.getfield 17, 3) := by decide +kernel
theorem dX11_houseLine_88 : decode cX11_houseLine 88 = .ok (.iconst 3, 1) := by decide +kernel
theorem dX11_houseLine_89 : decode cX11_houseLine 89 = .ok (.aload_n 0, 1) := by decide +kernel
theorem dX11_houseLine_90 : decode cX11_houseLine 90 = .ok (.iconst 0, 1) := by decide +kernel
theorem dX11_houseLine_91 : decode cX11_houseLine 91 = .ok (.bipush 9, 2) := by decide +kernel
theorem dX11_houseLine_93 : decode cX11_houseLine 93 = .ok (.invokevirtual 134, 3) := by decide +kernel
theorem dX11_houseLine_96 : decode cX11_houseLine 96 = .ok (.iastore, 1) := by decide +kernel
theorem dX11_houseLine_97 : decode cX11_houseLine 97 = .ok (.goto 46, 3) := by decide +kernel
theorem dX11_houseLine_100 : decode cX11_houseLine 100 = .ok (.aload_n 0, 1) := by decide +kernel
theorem dX11_houseLine_101 : decode cX11_houseLine 101 = .ok (.iconst 0, 1) := by decide +kernel
theorem dX11_houseLine_102 : decode cX11_houseLine 102 = .ok (.bipush 7, 2) := by decide +kernel
theorem dX11_houseLine_104 : decode cX11_houseLine 104 = .ok (.invokevirtual 134, 3) := by decide +kernel
theorem dX11_houseLine_107 : decode cX11_houseLine 107 = .ok (.istore_n 3, 1) := by decide +kernel
theorem dX11_houseLine_108 : decode cX11_houseLine 108 = .ok (.aload_n 0, 1) := by decide +kernel
theorem dX11_houseLine_109 : decode cX11_houseLine 109 = .ok (.iload_n 3, 1) := by decide +kernel
theorem dX11_houseLine_110 : decode cX11_houseLine 110 = .ok (.aload_n 0, 1) := by decide +kernel
theorem dX11_houseLine_111 : decode cX11_houseLine 111 = .ok (.getfield 157, 3) := by decide +kernel
theorem dX11_houseLine_114 : decode cX11_houseLine 114 = .ok (.if_icmp .le 7, 3) := by decide +kernel
theorem dX11_houseLine_117 : decode cX11_houseLine 117 = .ok (.iload_n 3, 1) := by decide +kernel
theorem dX11_houseLine_118 : decode cX11_houseLine 118 = .ok (.goto 7, 3) := by decide +kernel
theorem dX11_houseLine_121 : decode cX11_houseLine 121 = .ok (.aload_n 0, 1) := by decide +kernel
theorem dX11_houseLine_122 : decode cX11_houseLine 122 = .ok (.getfield 157, 3) := by decide +kernel
theorem dX11_houseLine_125 : decode cX11_houseLine 125 = .ok (.putfield 157, 3) := by decide +kernel
theorem dX11_houseLine_128 : decode cX11_houseLine 128 = .ok (.aload_n 0, 1) := by decide +kernel
theorem dX11_houseLine_129 : decode cX11_houseLine 129 = .ok (.getfield 17, 3) := by decide +kernel
theorem dX11_houseLine_132 : decode cX11_houseLine 132 = .ok (.iconst 4, 1) := by decide +kernel
theorem dX11_houseLine_133 : decode cX11_houseLine 133 = .ok (.dup2, 1) := by decide +kernel
theorem dX11_houseLine_134 : decode cX11_houseLine 134 = .ok (.iaload, 1) := by decide +kernel
theorem dX11_houseLine_135 : decode cX11_houseLine 135 = .ok (.iconst 1, 1) := by decide +kernel
theorem dX11_houseLine_136 : decode cX11_houseLine 136 = .ok (.iload_n 3, 1) := by decide +kernel
theorem dX11_houseLine_137 : decode cX11_houseLine 137 = .ok (.ishl, 1) := by decide +kernel
theorem dX11_houseLine_138 : decode cX11_houseLine 138 = .ok (.ior, 1) := by decide +kernel
theorem dX11_houseLine_139 : decode cX11_houseLine 139 = .ok (.iastore, 1) := by decide +kernel
theorem dX11_houseLine_140 : decode cX11_houseLine 140 = .ok (.goto 3, 3) := by decide +kernel
theorem dX11_houseLine_143 : decode cX11_houseLine 143 = .ok (.aload_n 0, 1) := by decide +kernel
theorem dX11_houseLine_144 : decode cX11_houseLine 144 = .ok (.invokevirtual 160, 3) := by decide +kernel
theorem dX11_houseLine_147 : decode cX11_houseLine 147 = .ok (.return_, 1) := by decide +kernel
theorem dX11_nightsLine_0 : decode cX11_nightsLine 0 = .ok (.aload_n 0, 1) := by decide +kernel
theorem dX11_nightsLine_1 : decode cX11_nightsLine 1 = .ok (.getfield 89, 3) := by decide +kernel
theorem dX11_nightsLine_4 : decode cX11_nightsLine 4 = .ok (.istore_n 1, 1) := by decide +kernel
theorem dX11_nightsLine_5 : decode cX11_nightsLine 5 = .ok (.aload_n 0, 1) := by decide +kernel
theorem dX11_nightsLine_6 : decode cX11_nightsLine 6 = .ok (.bipush 6, 2) := by decide +kernel
theorem dX11_nightsLine_8 : decode cX11_nightsLine 8 = .ok (.bipush 10, 2) := by decide +kernel
theorem dX11_nightsLine_10 : decode cX11_nightsLine 10 = .ok (.invokevirtual 144, 3) := by decide +kernel
theorem dX11_nightsLine_13 : decode cX11_nightsLine 13 = .ok (.bipush 6, 2) := by decide +kernel
theorem dX11_nightsLine_15 : decode cX11_nightsLine 15 = .ok (.isub, 1) := by decide +kernel
theorem dX11_nightsLine_16 : decode cX11_nightsLine 16 = .ok (.istore_n 2, 1) := by decide +kernel
theorem dX11_nightsLine_17 : decode cX11_nightsLine 17 = .ok (.aload_n 0, 1) := by decide +kernel
theorem dX11_nightsLine_18 : decode cX11_nightsLine 18 = .ok (.getfield 116, 3) := by decide +kernel
theorem dX11_nightsLine_21 : decode cX11_nightsLine 21 = .ok (.ifCond .ne 20, 3) := by decide +kernel
theorem dX11_nightsLine_24 : decode cX11_nightsLine 24 = .ok (.aload_n 0, 1) := by decide +kernel
theorem dX11_nightsLine_25 : decode cX11_nightsLine 25 = .ok (.getfield 17, 3) := by decide +kernel
theorem dX11_nightsLine_28 : decode cX11_nightsLine 28 = .ok (.iconst 0, 1) := by decide +kernel
theorem dX11_nightsLine_29 : decode cX11_nightsLine 29 = .ok (.iaload, 1) := by decide +kernel
theorem dX11_nightsLine_30 : decode cX11_nightsLine 30 = .ok (.bipush 40, 2) := by decide +kernel
theorem dX11_nightsLine_32 : decode cX11_nightsLine 32 = .ok (.if_icmp .lt 9, 3) := by decide +kernel
theorem dX11_nightsLine_35 : decode cX11_nightsLine 35 = .ok (.aload_n 0, 1) := by decide +kernel
theorem dX11_nightsLine_36 : decode cX11_nightsLine 36 = .ok (.iconst 3, 1) := by decide +kernel
theorem dX11_nightsLine_37 : decode cX11_nightsLine 37 = .ok (.iload_n 1, 1) := by decide +kernel
theorem dX11_nightsLine_38 : decode cX11_nightsLine 38 = .ok (.invokevirtual 127, 3) := by decide +kernel
theorem dX11_nightsLine_41 : decode cX11_nightsLine 41 = .ok (.iload_n 2, 1) := by decide +kernel
theorem dX11_nightsLine_42 : decode cX11_nightsLine 42 = .ok (.iconst 3, 1) := by decide +kernel
theorem dX11_nightsLine_43 : decode cX11_nightsLine 43 = .ok (.if_icmp .ge 12, 3) := by decide +kernel
theorem dX11_nightsLine_46 : decode cX11_nightsLine 46 = .ok (.aload_n 0, 1) := by decide +kernel
theorem dX11_nightsLine_47 : decode cX11_nightsLine 47 = .ok (.iconst 0, 1) := by decide +kernel
theorem dX11_nightsLine_48 : decode cX11_nightsLine 48 = .ok (.iconst 4, 1) := by decide +kernel
theorem dX11_nightsLine_49 : decode cX11_nightsLine 49 = .ok (.invokevirtual 134, 3) := by decide +kernel
theorem dX11_nightsLine_52 : decode cX11_nightsLine 52 = .ok (.goto 4, 3) := by decide +kernel
theorem dX11_nightsLine_55 : decode cX11_nightsLine 55 = .ok (.iconst (-1), 1) := by decide +kernel
theorem dX11_nightsLine_56 : decode cX11_nightsLine 56 = .ok (.istore_n 3, 1) := by decide +kernel
theorem dX11_nightsLine_57 : decode cX11_nightsLine 57 = .ok (.aload_n 0, 1) := by decide +kernel
theorem dX11_nightsLine_58 : decode cX11_nightsLine 58 = .ok (.getfield 17, 3) := by decide +kernel
theorem dX11_nightsLine_61 : decode cX11_nightsLine 61 = .ok (.iconst 0, 1) := by decide +kernel
theorem dX11_nightsLine_62 : decode cX11_nightsLine 62 = .ok (.iaload, 1) := by decide +kernel
theorem dX11_nightsLine_63 : decode cX11_nightsLine 63 = .ok (.bipush 40, 2) := by decide +kernel
theorem dX11_nightsLine_65 : decode cX11_nightsLine 65 = .ok (.if_icmp .ge 45, 3) := by decide +kernel
theorem dX11_nightsLine_68 : decode cX11_nightsLine 68 = .ok (.aload_n 0, 1) := by decide +kernel
theorem dX11_nightsLine_69 : decode cX11_nightsLine 69 = .ok (.getfield 17, 3) := by decide +kernel
theorem dX11_nightsLine_72 : decode cX11_nightsLine 72 = .ok (.iconst 1, 1) := by decide +kernel
theorem dX11_nightsLine_73 : decode cX11_nightsLine 73 = .ok (.iconst 2, 1) := by decide +kernel
theorem dX11_nightsLine_74 : decode cX11_nightsLine 74 = .ok (.aload_n 0, 1) := by decide +kernel
theorem dX11_nightsLine_75 : decode cX11_nightsLine 75 = .ok (.getfield 17, 3) := by decide +kernel
theorem dX11_nightsLine_78 : decode cX11_nightsLine 78 = .ok (.iconst 0, 1) := by decide +kernel
theorem dX11_nightsLine_79 : decode cX11_nightsLine 79 = .ok (.iaload, 1) := by decide +kernel
theorem dX11_nightsLine_80 : decode cX11_nightsLine 80 = .ok (.imul, 1) := by decide +kernel
theorem dX11_nightsLine_81 : decode cX11_nightsLine 81 = .ok (.iadd, 1) := by decide +kernel
theorem dX11_nightsLine_82 : decode cX11_nightsLine 82 = .ok (.iload_n 2, 1) := by decide +kernel
theorem dX11_nightsLine_83 : decode cX11_nightsLine 83 = .ok (.iastore, 1) := by decide +kernel
theorem dX11_nightsLine_84 : decode cX11_nightsLine 84 = .ok (.aload_n 0, 1) := by decide +kernel
theorem dX11_nightsLine_85 : decode cX11_nightsLine 85 = .ok (.getfield 17, 3) := by decide +kernel
theorem dX11_nightsLine_88 : decode cX11_nightsLine 88 = .ok (.iconst 2, 1) := by decide +kernel
theorem dX11_nightsLine_89 : decode cX11_nightsLine 89 = .ok (.iconst 2, 1) := by decide +kernel
theorem dX11_nightsLine_90 : decode cX11_nightsLine 90 = .ok (.aload_n 0, 1) := by decide +kernel
theorem dX11_nightsLine_91 : decode cX11_nightsLine 91 = .ok (.getfield 17, 3) := by decide +kernel
theorem dX11_nightsLine_94 : decode cX11_nightsLine 94 = .ok (.iconst 0, 1) := by decide +kernel
theorem dX11_nightsLine_95 : decode cX11_nightsLine 95 = .ok (.iaload, 1) := by decide +kernel
theorem dX11_nightsLine_96 : decode cX11_nightsLine 96 = .ok (.imul, 1) := by decide +kernel
theorem dX11_nightsLine_97 : decode cX11_nightsLine 97 = .ok (.iadd, 1) := by decide +kernel
theorem dX11_nightsLine_98 : decode cX11_nightsLine 98 = .ok (.iload_n 3, 1) := by decide +kernel
theorem dX11_nightsLine_99 : decode cX11_nightsLine 99 = .ok (.iastore, 1) := by decide +kernel
theorem dX11_nightsLine_100 : decode cX11_nightsLine 100 = .ok (.aload_n 0, 1) := by decide +kernel
theorem dX11_nightsLine_101 : decode cX11_nightsLine 101 = .ok (.getfield 17, 3) := by decide +kernel
theorem dX11_nightsLine_104 : decode cX11_nightsLine 104 = .ok (.iconst 0, 1) := by decide +kernel
theorem dX11_nightsLine_105 : decode cX11_nightsLine 105 = .ok (.dup2, 1) := by decide +kernel
theorem dX11_nightsLine_106 : decode cX11_nightsLine 106 = .ok (.iaload, 1) := by decide +kernel
theorem dX11_nightsLine_107 : decode cX11_nightsLine 107 = .ok (.iconst 1, 1) := by decide +kernel
theorem dX11_nightsLine_108 : decode cX11_nightsLine 108 = .ok (.iadd, 1) := by decide +kernel
theorem dX11_nightsLine_109 : decode cX11_nightsLine 109 = .ok (.iastore, 1) := by decide +kernel
theorem dX11_nightsLine_110 : decode cX11_nightsLine 110 = .ok (.aload_n 0, 1) := by decide +kernel
theorem dX11_nightsLine_111 : decode cX11_nightsLine 111 = .ok (.invokevirtual 160, 3) := by decide +kernel
theorem dX11_nightsLine_114 : decode cX11_nightsLine 114 = .ok (.return_, 1) := by decide +kernel
theorem dX11_morningsLine_0 : decode cX11_morningsLine 0 = .ok (.aload_n 0, 1) := by decide +kernel
theorem dX11_morningsLine_1 : decode cX11_morningsLine 1 = .ok (.getfield 89, 3) := by decide +kernel
theorem dX11_morningsLine_4 : decode cX11_morningsLine 4 = .ok (.istore_n 1, 1) := by decide +kernel
theorem dX11_morningsLine_5 : decode cX11_morningsLine 5 = .ok (.aload_n 0, 1) := by decide +kernel
theorem dX11_morningsLine_6 : decode cX11_morningsLine 6 = .ok (.bipush 11, 2) := by decide +kernel
theorem dX11_morningsLine_8 : decode cX11_morningsLine 8 = .ok (.bipush 12, 2) := by decide +kernel
theorem dX11_morningsLine_10 : decode cX11_morningsLine 10 = .ok (.invokevirtual 144, 3) := by decide +kernel
theorem dX11_morningsLine_13 : decode cX11_morningsLine 13 = .ok (.bipush 11, 2) := by decide +kernel
theorem dX11_morningsLine_15 : decode cX11_morningsLine 15 = .ok (.isub, 1) := by decide +kernel
theorem dX11_morningsLine_16 : decode cX11_morningsLine 16 = .ok (.istore_n 2, 1) := by decide +kernel
theorem dX11_morningsLine_17 : decode cX11_morningsLine 17 = .ok (.aload_n 0, 1) := by decide +kernel
theorem dX11_morningsLine_18 : decode cX11_morningsLine 18 = .ok (.getfield 116, 3) := by decide +kernel
theorem dX11_morningsLine_21 : decode cX11_morningsLine 21 = .ok (.ifCond .ne 20, 3) := by decide +kernel
theorem dX11_morningsLine_24 : decode cX11_morningsLine 24 = .ok (.aload_n 0, 1) := by decide +kernel
theorem dX11_morningsLine_25 : decode cX11_morningsLine 25 = .ok (.getfield 17, 3) := by decide +kernel
theorem dX11_morningsLine_28 : decode cX11_morningsLine 28 = .ok (.iconst 0, 1) := by decide +kernel
theorem dX11_morningsLine_29 : decode cX11_morningsLine 29 = .ok (.iaload, 1) := by decide +kernel
theorem dX11_morningsLine_30 : decode cX11_morningsLine 30 = .ok (.bipush 8, 2) := by decide +kernel
theorem dX11_morningsLine_32 : decode cX11_morningsLine 32 = .ok (.if_icmp .lt 9, 3) := by decide +kernel
theorem dX11_morningsLine_35 : decode cX11_morningsLine 35 = .ok (.aload_n 0, 1) := by decide +kernel
theorem dX11_morningsLine_36 : decode cX11_morningsLine 36 = .ok (.iconst 3, 1) := by decide +kernel
theorem dX11_morningsLine_37 : decode cX11_morningsLine 37 = .ok (.iload_n 1, 1) := by decide +kernel
theorem dX11_morningsLine_38 : decode cX11_morningsLine 38 = .ok (.invokevirtual 127, 3) := by decide +kernel
theorem dX11_morningsLine_41 : decode cX11_morningsLine 41 = .ok (.aload_n 0, 1) := by decide +kernel
theorem dX11_morningsLine_42 : decode cX11_morningsLine 42 = .ok (.iconst 0, 1) := by decide +kernel
theorem dX11_morningsLine_43 : decode cX11_morningsLine 43 = .ok (.iconst 5, 1) := by decide +kernel
theorem dX11_morningsLine_44 : decode cX11_morningsLine 44 = .ok (.invokevirtual 134, 3) := by decide +kernel
theorem dX11_morningsLine_47 : decode cX11_morningsLine 47 = .ok (.istore_n 3, 1) := by decide +kernel
theorem dX11_morningsLine_48 : decode cX11_morningsLine 48 = .ok (.aload_n 0, 1) := by decide +kernel
theorem dX11_morningsLine_49 : decode cX11_morningsLine 49 = .ok (.getfield 17, 3) := by decide +kernel
theorem dX11_morningsLine_52 : decode cX11_morningsLine 52 = .ok (.iconst 0, 1) := by decide +kernel
theorem dX11_morningsLine_53 : decode cX11_morningsLine 53 = .ok (.iaload, 1) := by decide +kernel
theorem dX11_morningsLine_54 : decode cX11_morningsLine 54 = .ok (.bipush 8, 2) := by decide +kernel
theorem dX11_morningsLine_56 : decode cX11_morningsLine 56 = .ok (.if_icmp .ge 45, 3) := by decide +kernel
theorem dX11_morningsLine_59 : decode cX11_morningsLine 59 = .ok (.aload_n 0, 1) := by decide +kernel
theorem dX11_morningsLine_60 : decode cX11_morningsLine 60 = .ok (.getfield 17, 3) := by decide +kernel
theorem dX11_morningsLine_63 : decode cX11_morningsLine 63 = .ok (.iconst 1, 1) := by decide +kernel
theorem dX11_morningsLine_64 : decode cX11_morningsLine 64 = .ok (.iconst 2, 1) := by decide +kernel
theorem dX11_morningsLine_65 : decode cX11_morningsLine 65 = .ok (.aload_n 0, 1) := by decide +kernel
theorem dX11_morningsLine_66 : decode cX11_morningsLine 66 = .ok (.getfield 17, 3) := by decide +kernel
theorem dX11_morningsLine_69 : decode cX11_morningsLine 69 = .ok (.iconst 0, 1) := by decide +kernel
theorem dX11_morningsLine_70 : decode cX11_morningsLine 70 = .ok (.iaload, 1) := by decide +kernel
theorem dX11_morningsLine_71 : decode cX11_morningsLine 71 = .ok (.imul, 1) := by decide +kernel
theorem dX11_morningsLine_72 : decode cX11_morningsLine 72 = .ok (.iadd, 1) := by decide +kernel
theorem dX11_morningsLine_73 : decode cX11_morningsLine 73 = .ok (.iload_n 2, 1) := by decide +kernel
theorem dX11_morningsLine_74 : decode cX11_morningsLine 74 = .ok (.iastore, 1) := by decide +kernel
theorem dX11_morningsLine_75 : decode cX11_morningsLine 75 = .ok (.aload_n 0, 1) := by decide +kernel
theorem dX11_morningsLine_76 : decode cX11_morningsLine 76 = .ok (.getfield 17, 3) := by decide +kernel
theorem dX11_morningsLine_79 : decode cX11_morningsLine 79 = .ok (.iconst 2, 1) := by decide +kernel
theorem dX11_morningsLine_80 : decode cX11_morningsLine 80 = .ok (.iconst 2, 1) := by decide +kernel
theorem dX11_morningsLine_81 : decode cX11_morningsLine 81 = .ok (.aload_n 0, 1) := by decide +kernel
theorem dX11_morningsLine_82 : decode cX11_morningsLine 82 = .ok (.getfield 17, 3) := by decide +kernel
theorem dX11_morningsLine_85 : decode cX11_morningsLine 85 = .ok (.iconst 0, 1) := by decide +kernel
theorem dX11_morningsLine_86 : decode cX11_morningsLine 86 = .ok (.iaload, 1) := by decide +kernel
theorem dX11_morningsLine_87 : decode cX11_morningsLine 87 = .ok (.imul, 1) := by decide +kernel
theorem dX11_morningsLine_88 : decode cX11_morningsLine 88 = .ok (.iadd, 1) := by decide +kernel
theorem dX11_morningsLine_89 : decode cX11_morningsLine 89 = .ok (.iload_n 3, 1) := by decide +kernel
theorem dX11_morningsLine_90 : decode cX11_morningsLine 90 = .ok (.iastore, 1) := by decide +kernel
theorem dX11_morningsLine_91 : decode cX11_morningsLine 91 = .ok (.aload_n 0, 1) := by decide +kernel
theorem dX11_morningsLine_92 : decode cX11_morningsLine 92 = .ok (.getfield 17, 3) := by decide +kernel
theorem dX11_morningsLine_95 : decode cX11_morningsLine 95 = .ok (.iconst 0, 1) := by decide +kernel
theorem dX11_morningsLine_96 : decode cX11_morningsLine 96 = .ok (.dup2, 1) := by decide +kernel
theorem dX11_morningsLine_97 : decode cX11_morningsLine 97 = .ok (.iaload, 1) := by decide +kernel
theorem dX11_morningsLine_98 : decode cX11_morningsLine 98 = .ok (.iconst 1, 1) := by decide +kernel
theorem dX11_morningsLine_99 : decode cX11_morningsLine 99 = .ok (.iadd, 1) := by decide +kernel
theorem dX11_morningsLine_100 : decode cX11_morningsLine 100 = .ok (.iastore, 1) := by decide +kernel
theorem dX11_morningsLine_101 : decode cX11_morningsLine 101 = .ok (.aload_n 0, 1) := by decide +kernel
theorem dX11_morningsLine_102 : decode cX11_morningsLine 102 = .ok (.invokevirtual 160, 3) := by decide +kernel
theorem dX11_morningsLine_105 : decode cX11_morningsLine 105 = .ok (.return_, 1) := by decide +kernel
theorem dX11_placeOf_0 : decode cX11_placeOf 0 = .ok (.iload_n 0, 1) := by decide +kernel
theorem dX11_placeOf_1 : decode cX11_placeOf 1 = .ok (.ifCond .ne 14, 3) := by decide +kernel
theorem dX11_placeOf_4 : decode cX11_placeOf 4 = .ok (.sipush 610, 3) := by decide +kernel
theorem dX11_placeOf_7 : decode cX11_placeOf 7 = .ok (.bipush 64, 2) := by decide +kernel
theorem dX11_placeOf_9 : decode cX11_placeOf 9 = .ok (.iload_n 1, 1) := by decide +kernel
theorem dX11_placeOf_10 : decode cX11_placeOf 10 = .ok (.imul, 1) := by decide +kernel
theorem dX11_placeOf_11 : decode cX11_placeOf 11 = .ok (.iadd, 1) := by decide +kernel
theorem dX11_placeOf_12 : decode cX11_placeOf 12 = .ok (.goto 27, 3) := by decide +kernel
theorem dX11_placeOf_15 : decode cX11_placeOf 15 = .ok (.iload_n 0, 1) := by decide +kernel
theorem dX11_placeOf_16 : decode cX11_placeOf 16 = .ok (.iconst 1, 1) := by decide +kernel
theorem dX11_placeOf_17 : decode cX11_placeOf 17 = .ok (.if_icmp .ne 14, 3) := by decide +kernel
theorem dX11_placeOf_20 : decode cX11_placeOf 20 = .ok (.sipush 738, 3) := by decide +kernel
theorem dX11_placeOf_23 : decode cX11_placeOf 23 = .ok (.bipush 81, 2) := by decide +kernel
theorem dX11_placeOf_25 : decode cX11_placeOf 25 = .ok (.iload_n 1, 1) := by decide +kernel
theorem dX11_placeOf_26 : decode cX11_placeOf 26 = .ok (.imul, 1) := by decide +kernel
theorem dX11_placeOf_27 : decode cX11_placeOf 27 = .ok (.iadd, 1) := by decide +kernel
theorem dX11_placeOf_28 : decode cX11_placeOf 28 = .ok (.goto 11, 3) := by decide +kernel
theorem dX11_placeOf_31 : decode cX11_placeOf 31 = .ok (.sipush 900, 3) := by decide +kernel
theorem dX11_placeOf_34 : decode cX11_placeOf 34 = .ok (.bipush 17, 2) := by decide +kernel
theorem dX11_placeOf_36 : decode cX11_placeOf 36 = .ok (.iload_n 1, 1) := by decide +kernel
theorem dX11_placeOf_37 : decode cX11_placeOf 37 = .ok (.imul, 1) := by decide +kernel
theorem dX11_placeOf_38 : decode cX11_placeOf 38 = .ok (.iadd, 1) := by decide +kernel
theorem dX11_placeOf_39 : decode cX11_placeOf 39 = .ok (.ireturn, 1) := by decide +kernel
theorem dX11_sizeOf_0 : decode cX11_sizeOf 0 = .ok (.iload_n 0, 1) := by decide +kernel
theorem dX11_sizeOf_1 : decode cX11_sizeOf 1 = .ok (.ifCond .ne 8, 3) := by decide +kernel
theorem dX11_sizeOf_4 : decode cX11_sizeOf 4 = .ok (.bipush 64, 2) := by decide +kernel
theorem dX11_sizeOf_6 : decode cX11_sizeOf 6 = .ok (.goto 15, 3) := by decide +kernel
theorem dX11_sizeOf_9 : decode cX11_sizeOf 9 = .ok (.iload_n 0, 1) := by decide +kernel
theorem dX11_sizeOf_10 : decode cX11_sizeOf 10 = .ok (.iconst 1, 1) := by decide +kernel
theorem dX11_sizeOf_11 : decode cX11_sizeOf 11 = .ok (.if_icmp .ne 8, 3) := by decide +kernel
theorem dX11_sizeOf_14 : decode cX11_sizeOf 14 = .ok (.bipush 81, 2) := by decide +kernel
theorem dX11_sizeOf_16 : decode cX11_sizeOf 16 = .ok (.goto 5, 3) := by decide +kernel
theorem dX11_sizeOf_19 : decode cX11_sizeOf 19 = .ok (.bipush 17, 2) := by decide +kernel
theorem dX11_sizeOf_21 : decode cX11_sizeOf 21 = .ok (.ireturn, 1) := by decide +kernel
theorem dX11_isOf_0 : decode cX11_isOf 0 = .ok (.iload_n 2, 1) := by decide +kernel
theorem dX11_isOf_1 : decode cX11_isOf 1 = .ok (.iconst 0, 1) := by decide +kernel
theorem dX11_isOf_2 : decode cX11_isOf 2 = .ok (.aload_n 0, 1) := by decide +kernel
theorem dX11_isOf_3 : decode cX11_isOf 3 = .ok (.getfield 7, 3) := by decide +kernel
theorem dX11_isOf_6 : decode cX11_isOf 6 = .ok (.iload_n 1, 1) := by decide +kernel
theorem dX11_isOf_7 : decode cX11_isOf 7 = .ok (.iaload, 1) := by decide +kernel
theorem dX11_isOf_8 : decode cX11_isOf 8 = .ok (.iconst 1, 1) := by decide +kernel
theorem dX11_isOf_9 : decode cX11_isOf 9 = .ok (.isub, 1) := by decide +kernel
theorem dX11_isOf_10 : decode cX11_isOf 10 = .ok (.invokestatic 123, 3) := by decide +kernel
theorem dX11_isOf_13 : decode cX11_isOf 13 = .ok (.ireturn, 1) := by decide +kernel
theorem dX11_text_0 : decode cX11_text 0 = .ok (.aload_n 0, 1) := by decide +kernel
theorem dX11_text_1 : decode cX11_text 1 = .ok (.aload_n 0, 1) := by decide +kernel
theorem dX11_text_2 : decode cX11_text 2 = .ok (.getfield 7, 3) := by decide +kernel
theorem dX11_text_5 : decode cX11_text 5 = .ok (.iconst 4, 1) := by decide +kernel
theorem dX11_text_6 : decode cX11_text 6 = .ok (.iaload, 1) := by decide +kernel
theorem dX11_text_7 : decode cX11_text 7 = .ok (.putfield 68, 3) := by decide +kernel
theorem dX11_text_10 : decode cX11_text 10 = .ok (.aload_n 0, 1) := by decide +kernel
theorem dX11_text_11 : decode cX11_text 11 = .ok (.getfield 7, 3) := by decide +kernel
theorem dX11_text_14 : decode cX11_text 14 = .ok (.iconst 4, 1) := by decide +kernel
theorem dX11_text_15 : decode cX11_text 15 = .ok (.iconst 0, 1) := by decide +kernel
theorem dX11_text_16 : decode cX11_text 16 = .ok (.iastore, 1) := by decide +kernel
theorem dX11_text_17 : decode cX11_text 17 = .ok (.aload_n 0, 1) := by decide +kernel
theorem dX11_text_18 : decode cX11_text 18 = .ok (.getfield 7, 3) := by decide +kernel
theorem dX11_text_21 : decode cX11_text 21 = .ok (.iconst 5, 1) := by decide +kernel
theorem dX11_text_22 : decode cX11_text 22 = .ok (.iconst 0, 1) := by decide +kernel
theorem dX11_text_23 : decode cX11_text 23 = .ok (.iastore, 1) := by decide +kernel
theorem dX11_text_24 : decode cX11_text 24 = .ok (.aload_n 0, 1) := by decide +kernel
theorem dX11_text_25 : decode cX11_text 25 = .ok (.getfield 7, 3) := by decide +kernel
theorem dX11_text_28 : decode cX11_text 28 = .ok (.bipush 6, 2) := by decide +kernel
theorem dX11_text_30 : decode cX11_text 30 = .ok (.iconst (-1), 1) := by decide +kernel
theorem dX11_text_31 : decode cX11_text 31 = .ok (.iastore, 1) := by decide +kernel
theorem dX11_text_32 : decode cX11_text 32 = .ok (.iload_n 1, 1) := by decide +kernel
theorem dX11_text_33 : decode cX11_text 33 = .ok (.iconst 0, 1) := by decide +kernel
theorem dX11_text_34 : decode cX11_text 34 = .ok (.iconst 2, 1) := by decide +kernel
theorem dX11_text_35 : decode cX11_text 35 = .ok (.invokestatic 123, 3) := by decide +kernel
theorem dX11_text_38 : decode cX11_text 38 = .ok (.ifCond .eq 30, 3) := by decide +kernel
theorem dX11_text_41 : decode cX11_text 41 = .ok (.iload_n 2, 1) := by decide +kernel
theorem dX11_text_42 : decode cX11_text 42 = .ok (.iconst (-1), 1) := by decide +kernel
theorem dX11_text_43 : decode cX11_text 43 = .ok (.if_icmp .ne 16, 3) := by decide +kernel
theorem dX11_text_46 : decode cX11_text 46 = .ok (.aload_n 0, 1) := by decide +kernel
theorem dX11_text_47 : decode cX11_text 47 = .ok (.getfield 7, 3) := by decide +kernel
theorem dX11_text_50 : decode cX11_text 50 = .ok (.iload_n 1, 1) := by decide +kernel
theorem dX11_text_51 : decode cX11_text 51 = .ok (.iaload, 1) := by decide +kernel
theorem dX11_text_52 : decode cX11_text 52 = .ok (.iconst 2, 1) := by decide +kernel
theorem dX11_text_53 : decode cX11_text 53 = .ok (.if_icmp .lt 18, 3) := by decide +kernel
theorem dX11_text_56 : decode cX11_text 56 = .ok (.goto 12, 3) := by decide +kernel
theorem dX11_text_59 : decode cX11_text 59 = .ok (.aload_n 0, 1) := by decide +kernel
theorem dX11_text_60 : decode cX11_text 60 = .ok (.iload_n 1, 1) := by decide +kernel
theorem dX11_text_61 : decode cX11_text 61 = .ok (.iload_n 2, 1) := by decide +kernel
theorem dX11_text_62 : decode cX11_text 62 = .ok (.invokevirtual 163, 3) := by decide +kernel
theorem dX11_text_65 : decode cX11_text 65 = .ok (.ifCond .ne 6, 3) := by decide +kernel
theorem dX11_text_68 : decode cX11_text 68 = .ok (.bipush (-2), 2) := by decide +kernel
theorem dX11_text_70 : decode cX11_text 70 = .ok (.ireturn, 1) := by decide +kernel
theorem dX11_text_71 : decode cX11_text 71 = .ok (.aload_n 0, 1) := by decide +kernel
theorem dX11_text_72 : decode cX11_text 72 = .ok (.iconst 0, 1) := by decide +kernel
theorem dX11_text_73 : decode cX11_text 73 = .ok (.putfield 82, 3) := by decide +kernel
theorem dX11_text_76 : decode cX11_text 76 = .ok (.aload_n 0, 1) := by decide +kernel
theorem dX11_text_77 : decode cX11_text 77 = .ok (.iconst 0, 1) := by decide +kernel
theorem dX11_text_78 : decode cX11_text 78 = .ok (.putfield 116, 3) := by decide +kernel
theorem dX11_text_81 : decode cX11_text 81 = .ok (.aload_n 0, 1) := by decide +kernel
theorem dX11_text_82 : decode cX11_text 82 = .ok (.iconst (-1), 1) := by decide +kernel
theorem dX11_text_83 : decode cX11_text 83 = .ok (.putfield 138, 3) := by decide +kernel
theorem dX11_text_86 : decode cX11_text 86 = .ok (.aload_n 0, 1) := by decide +kernel
theorem dX11_text_87 : decode cX11_text 87 = .ok (.iconst (-1), 1) := by decide +kernel
theorem dX11_text_88 : decode cX11_text 88 = .ok (.putfield 157, 3) := by decide +kernel
theorem dX11_text_91 : decode cX11_text 91 = .ok (.iconst 0, 1) := by decide +kernel
theorem dX11_text_92 : decode cX11_text 92 = .ok (.istore_n 3, 1) := by decide +kernel
theorem dX11_text_93 : decode cX11_text 93 = .ok (.iload_n 3, 1) := by decide +kernel
theorem dX11_text_94 : decode cX11_text 94 = .ok (.bipush 81, 2) := by decide +kernel
theorem dX11_text_96 : decode cX11_text 96 = .ok (.if_icmp .ge 16, 3) := by decide +kernel
theorem dX11_text_99 : decode cX11_text 99 = .ok (.aload_n 0, 1) := by decide +kernel
theorem dX11_text_100 : decode cX11_text 100 = .ok (.getfield 17, 3) := by decide +kernel
theorem dX11_text_103 : decode cX11_text 103 = .ok (.iload_n 3, 1) := by decide +kernel
theorem dX11_text_104 : decode cX11_text 104 = .ok (.iconst 0, 1) := by decide +kernel
theorem dX11_text_105 : decode cX11_text 105 = .ok (.iastore, 1) := by decide +kernel
theorem dX11_text_106 : decode cX11_text 106 = .ok (.iinc 3 1, 3) := by decide +kernel
theorem dX11_text_109 : decode cX11_text 109 = .ok (.goto (-16), 3) := by decide +kernel
theorem dX11_text_112 : decode cX11_text 112 = .ok (.iload_n 1, 1) := by decide +kernel
theorem dX11_text_113 : decode cX11_text 113 = .ok (.ifCond .ne 11, 3) := by decide +kernel
theorem dX11_text_116 : decode cX11_text 116 = .ok (.aload_n 0, 1) := by decide +kernel
theorem dX11_text_117 : decode cX11_text 117 = .ok (.getfield 17, 3) := by decide +kernel
theorem dX11_text_120 : decode cX11_text 120 = .ok (.iconst 3, 1) := by decide +kernel
theorem dX11_text_121 : decode cX11_text 121 = .ok (.bipush 9, 2) := by decide +kernel
theorem dX11_text_123 : decode cX11_text 123 = .ok (.iastore, 1) := by decide +kernel
theorem dX11_text_124 : decode cX11_text 124 = .ok (.aload_n 0, 1) := by decide +kernel
theorem dX11_text_125 : decode cX11_text 125 = .ok (.invokevirtual 131, 3) := by decide +kernel
theorem dX11_text_128 : decode cX11_text 128 = .ok (.aload_n 0, 1) := by decide +kernel
theorem dX11_text_129 : decode cX11_text 129 = .ok (.getfield 116, 3) := by decide +kernel
theorem dX11_text_132 : decode cX11_text 132 = .ok (.ifCond .ne 57, 3) := by decide +kernel
theorem dX11_text_135 : decode cX11_text 135 = .ok (.aload_n 0, 1) := by decide +kernel
theorem dX11_text_136 : decode cX11_text 136 = .ok (.getfield 92, 3) := by decide +kernel
theorem dX11_text_139 : decode cX11_text 139 = .ok (.ifCond .eq 50, 3) := by decide +kernel
theorem dX11_text_142 : decode cX11_text 142 = .ok (.iload_n 1, 1) := by decide +kernel
theorem dX11_text_143 : decode cX11_text 143 = .ok (.lookupswitch 39 #[(0, 25), (1, 32)], 25) := by decide +kernel
theorem dX11_text_168 : decode cX11_text 168 = .ok (.aload_n 0, 1) := by decide +kernel
theorem dX11_text_169 : decode cX11_text 169 = .ok (.invokevirtual 167, 3) := by decide +kernel
theorem dX11_text_172 : decode cX11_text 172 = .ok (.goto (-44), 3) := by decide +kernel
theorem dX11_text_175 : decode cX11_text 175 = .ok (.aload_n 0, 1) := by decide +kernel
theorem dX11_text_176 : decode cX11_text 176 = .ok (.invokevirtual 170, 3) := by decide +kernel
theorem dX11_text_179 : decode cX11_text 179 = .ok (.goto (-51), 3) := by decide +kernel
theorem dX11_text_182 : decode cX11_text 182 = .ok (.aload_n 0, 1) := by decide +kernel
theorem dX11_text_183 : decode cX11_text 183 = .ok (.invokevirtual 173, 3) := by decide +kernel
theorem dX11_text_186 : decode cX11_text 186 = .ok (.goto (-58), 3) := by decide +kernel
theorem dX11_text_189 : decode cX11_text 189 = .ok (.iload_n 1, 1) := by decide +kernel
theorem dX11_text_190 : decode cX11_text 190 = .ok (.ifCond .ne 47, 3) := by decide +kernel
theorem dX11_text_193 : decode cX11_text 193 = .ok (.aload_n 0, 1) := by decide +kernel
theorem dX11_text_194 : decode cX11_text 194 = .ok (.getfield 7, 3) := by decide +kernel
theorem dX11_text_197 : decode cX11_text 197 = .ok (.iconst 5, 1) := by decide +kernel
theorem dX11_text_198 : decode cX11_text 198 = .ok (.iaload, 1) := by decide +kernel
theorem dX11_text_199 : decode cX11_text 199 = .ok (.ifCond .ne 38, 3) := by decide +kernel
theorem dX11_text_202 : decode cX11_text 202 = .ok (.aload_n 0, 1) := by decide +kernel
theorem dX11_text_203 : decode cX11_text 203 = .ok (.getfield 138, 3) := by decide +kernel
theorem dX11_text_206 : decode cX11_text 206 = .ok (.aload_n 0, 1) := by decide +kernel
theorem dX11_text_207 : decode cX11_text 207 = .ok (.getfield 17, 3) := by decide +kernel
theorem dX11_text_210 : decode cX11_text 210 = .ok (.iconst 0, 1) := by decide +kernel
theorem dX11_text_211 : decode cX11_text 211 = .ok (.iaload, 1) := by decide +kernel
theorem dX11_text_212 : decode cX11_text 212 = .ok (.if_icmp .ge 16, 3) := by decide +kernel
theorem dX11_text_215 : decode cX11_text 215 = .ok (.aload_n 0, 1) := by decide +kernel
theorem dX11_text_216 : decode cX11_text 216 = .ok (.getfield 157, 3) := by decide +kernel
theorem dX11_text_219 : decode cX11_text 219 = .ok (.aload_n 0, 1) := by decide +kernel
theorem dX11_text_220 : decode cX11_text 220 = .ok (.getfield 17, 3) := by decide +kernel
theorem dX11_text_223 : decode cX11_text 223 = .ok (.iconst 1, 1) := by decide +kernel
theorem dX11_text_224 : decode cX11_text 224 = .ok (.iaload, 1) := by decide +kernel
theorem dX11_text_225 : decode cX11_text 225 = .ok (.if_icmp .lt 12, 3) := by decide +kernel
theorem dX11_text_228 : decode cX11_text 228 = .ok (.aload_n 0, 1) := by decide +kernel
theorem dX11_text_229 : decode cX11_text 229 = .ok (.iconst 4, 1) := by decide +kernel
theorem dX11_text_230 : decode cX11_text 230 = .ok (.aload_n 0, 1) := by decide +kernel
theorem dX11_text_231 : decode cX11_text 231 = .ok (.getfield 89, 3) := by decide +kernel
theorem dX11_text_234 : decode cX11_text 234 = .ok (.invokevirtual 127, 3) := by decide +kernel
theorem dX11_text_237 : decode cX11_text 237 = .ok (.aload_n 0, 1) := by decide +kernel
theorem dX11_text_238 : decode cX11_text 238 = .ok (.getfield 7, 3) := by decide +kernel
theorem dX11_text_241 : decode cX11_text 241 = .ok (.iconst 5, 1) := by decide +kernel
theorem dX11_text_242 : decode cX11_text 242 = .ok (.iaload, 1) := by decide +kernel
theorem dX11_text_243 : decode cX11_text 243 = .ok (.ifCond .eq 5, 3) := by decide +kernel
theorem dX11_text_246 : decode cX11_text 246 = .ok (.iconst (-1), 1) := by decide +kernel
theorem dX11_text_247 : decode cX11_text 247 = .ok (.ireturn, 1) := by decide +kernel
theorem dX11_text_248 : decode cX11_text 248 = .ok (.iload_n 2, 1) := by decide +kernel
theorem dX11_text_249 : decode cX11_text 249 = .ok (.iconst (-1), 1) := by decide +kernel
theorem dX11_text_250 : decode cX11_text 250 = .ok (.if_icmp .ne 12, 3) := by decide +kernel
theorem dX11_text_253 : decode cX11_text 253 = .ok (.aload_n 0, 1) := by decide +kernel
theorem dX11_text_254 : decode cX11_text 254 = .ok (.getfield 7, 3) := by decide +kernel
theorem dX11_text_257 : decode cX11_text 257 = .ok (.iload_n 1, 1) := by decide +kernel
theorem dX11_text_258 : decode cX11_text 258 = .ok (.iaload, 1) := by decide +kernel
theorem dX11_text_259 : decode cX11_text 259 = .ok (.goto 4, 3) := by decide +kernel
theorem dX11_text_262 : decode cX11_text 262 = .ok (.iload_n 2, 1) := by decide +kernel
theorem dX11_text_263 : decode cX11_text 263 = .ok (.istore_n 3, 1) := by decide +kernel
theorem dX11_text_264 : decode cX11_text 264 = .ok (.iload_n 2, 1) := by decide +kernel
theorem dX11_text_265 : decode cX11_text 265 = .ok (.iconst (-1), 1) := by decide +kernel
theorem dX11_text_266 : decode cX11_text 266 = .ok (.if_icmp .ne 13, 3) := by decide +kernel
theorem dX11_text_269 : decode cX11_text 269 = .ok (.aload_n 0, 1) := by decide +kernel
theorem dX11_text_270 : decode cX11_text 270 = .ok (.getfield 7, 3) := by decide +kernel
theorem dX11_text_273 : decode cX11_text 273 = .ok (.iload_n 1, 1) := by decide +kernel
theorem dX11_text_274 : decode cX11_text 274 = .ok (.dup2, 1) := by decide +kernel
theorem dX11_text_275 : decode cX11_text 275 = .ok (.iaload, 1) := by decide +kernel
theorem dX11_text_276 : decode cX11_text 276 = .ok (.iconst 1, 1) := by decide +kernel
theorem dX11_text_277 : decode cX11_text 277 = .ok (.iadd, 1) := by decide +kernel
theorem dX11_text_278 : decode cX11_text 278 = .ok (.iastore, 1) := by decide +kernel
theorem dX11_text_279 : decode cX11_text 279 = .ok (.iconst 0, 1) := by decide +kernel
theorem dX11_text_280 : decode cX11_text 280 = .ok (.istore 4, 2) := by decide +kernel
theorem dX11_text_282 : decode cX11_text 282 = .ok (.iload 4, 2) := by decide +kernel
theorem dX11_text_284 : decode cX11_text 284 = .ok (.iload_n 1, 1) := by decide +kernel
theorem dX11_text_285 : decode cX11_text 285 = .ok (.invokestatic 176, 3) := by decide +kernel
theorem dX11_text_288 : decode cX11_text 288 = .ok (.if_icmp .ge 29, 3) := by decide +kernel
theorem dX11_text_291 : decode cX11_text 291 = .ok (.aload_n 0, 1) := by decide +kernel
theorem dX11_text_292 : decode cX11_text 292 = .ok (.getfield 7, 3) := by decide +kernel
theorem dX11_text_295 : decode cX11_text 295 = .ok (.iload_n 1, 1) := by decide +kernel
theorem dX11_text_296 : decode cX11_text 296 = .ok (.iload_n 3, 1) := by decide +kernel
theorem dX11_text_297 : decode cX11_text 297 = .ok (.invokestatic 179, 3) := by decide +kernel
theorem dX11_text_300 : decode cX11_text 300 = .ok (.iload 4, 2) := by decide +kernel
theorem dX11_text_302 : decode cX11_text 302 = .ok (.iadd, 1) := by decide +kernel
theorem dX11_text_303 : decode cX11_text 303 = .ok (.aload_n 0, 1) := by decide +kernel
theorem dX11_text_304 : decode cX11_text 304 = .ok (.getfield 17, 3) := by decide +kernel
theorem dX11_text_307 : decode cX11_text 307 = .ok (.iload 4, 2) := by decide +kernel
theorem dX11_text_309 : decode cX11_text 309 = .ok (.iaload, 1) := by decide +kernel
theorem dX11_text_310 : decode cX11_text 310 = .ok (.iastore, 1) := by decide +kernel
theorem dX11_text_311 : decode cX11_text 311 = .ok (.iinc 4 1, 3) := by decide +kernel
theorem dX11_text_314 : decode cX11_text 314 = .ok (.goto (-32), 3) := by decide +kernel
theorem dX11_text_317 : decode cX11_text 317 = .ok (.iload_n 3, 1) := by decide +kernel
theorem dX11_text_318 : decode cX11_text 318 = .ok (.ireturn, 1) := by decide +kernel
theorem dX11_fault_0 : decode cX11_fault 0 = .ok (.iload_n 1, 1) := by decide +kernel
theorem dX11_fault_1 : decode cX11_fault 1 = .ok (.ifCond .ne 12, 3) := by decide +kernel
theorem dX11_fault_4 : decode cX11_fault 4 = .ok (.aload_n 0, 1) := by decide +kernel
theorem dX11_fault_5 : decode cX11_fault 5 = .ok (.getfield 7, 3) := by decide +kernel
theorem dX11_fault_8 : decode cX11_fault 8 = .ok (.iconst 5, 1) := by decide +kernel
theorem dX11_fault_9 : decode cX11_fault 9 = .ok (.iaload, 1) := by decide +kernel
theorem dX11_fault_10 : decode cX11_fault 10 = .ok (.goto 19, 3) := by decide +kernel
theorem dX11_fault_13 : decode cX11_fault 13 = .ok (.iload_n 1, 1) := by decide +kernel
theorem dX11_fault_14 : decode cX11_fault 14 = .ok (.iconst 1, 1) := by decide +kernel
theorem dX11_fault_15 : decode cX11_fault 15 = .ok (.if_icmp .ne 13, 3) := by decide +kernel
theorem dX11_fault_18 : decode cX11_fault 18 = .ok (.aload_n 0, 1) := by decide +kernel
theorem dX11_fault_19 : decode cX11_fault 19 = .ok (.getfield 7, 3) := by decide +kernel
theorem dX11_fault_22 : decode cX11_fault 22 = .ok (.bipush 6, 2) := by decide +kernel
theorem dX11_fault_24 : decode cX11_fault 24 = .ok (.iaload, 1) := by decide +kernel
theorem dX11_fault_25 : decode cX11_fault 25 = .ok (.goto 4, 3) := by decide +kernel
theorem dX11_fault_28 : decode cX11_fault 28 = .ok (.iconst (-1), 1) := by decide +kernel
theorem dX11_fault_29 : decode cX11_fault 29 = .ok (.ireturn, 1) := by decide +kernel
theorem dX11_isHouse_0 : decode cX11_isHouse 0 = .ok (.aload_n 0, 1) := by decide +kernel
theorem dX11_isHouse_1 : decode cX11_isHouse 1 = .ok (.iconst 0, 1) := by decide +kernel
theorem dX11_isHouse_2 : decode cX11_isHouse 2 = .ok (.iload_n 1, 1) := by decide +kernel
theorem dX11_isHouse_3 : decode cX11_isHouse 3 = .ok (.invokevirtual 163, 3) := by decide +kernel
theorem dX11_isHouse_6 : decode cX11_isHouse 6 = .ok (.ifCond .ne 5, 3) := by decide +kernel
theorem dX11_isHouse_9 : decode cX11_isHouse 9 = .ok (.iconst 0, 1) := by decide +kernel
theorem dX11_isHouse_10 : decode cX11_isHouse 10 = .ok (.ireturn, 1) := by decide +kernel
theorem dX11_isHouse_11 : decode cX11_isHouse 11 = .ok (.aload_n 0, 1) := by decide +kernel
theorem dX11_isHouse_12 : decode cX11_isHouse 12 = .ok (.iconst 0, 1) := by decide +kernel
theorem dX11_isHouse_13 : decode cX11_isHouse 13 = .ok (.iload_n 1, 1) := by decide +kernel
theorem dX11_isHouse_14 : decode cX11_isHouse 14 = .ok (.invokestatic 179, 3) := by decide +kernel
theorem dX11_isHouse_17 : decode cX11_isHouse 17 = .ok (.putfield 182, 3) := by decide +kernel
theorem dX11_isHouse_20 : decode cX11_isHouse 20 = .ok (.aload_n 0, 1) := by decide +kernel
theorem dX11_isHouse_21 : decode cX11_isHouse 21 = .ok (.aload_n 0, 1) := by decide +kernel
theorem dX11_isHouse_22 : decode cX11_isHouse 22 = .ok (.getfield 7, 3) := by decide +kernel
theorem dX11_isHouse_25 : decode cX11_isHouse 25 = .ok (.aload_n 0, 1) := by decide +kernel
theorem dX11_isHouse_26 : decode cX11_isHouse 26 = .ok (.getfield 182, 3) := by decide +kernel
theorem dX11_isHouse_29 : decode cX11_isHouse 29 = .ok (.iaload, 1) := by decide +kernel
theorem dX11_isHouse_30 : decode cX11_isHouse 30 = .ok (.putfield 185, 3) := by decide +kernel
theorem dX11_isHouse_33 : decode cX11_isHouse 33 = .ok (.aload_n 0, 1) := by decide +kernel
theorem dX11_isHouse_34 : decode cX11_isHouse 34 = .ok (.aload_n 0, 1) := by decide +kernel
theorem dX11_isHouse_35 : decode cX11_isHouse 35 = .ok (.getfield 7, 3) := by decide +kernel
theorem dX11_isHouse_38 : decode cX11_isHouse 38 = .ok (.aload_n 0, 1) := by decide +kernel
theorem dX11_isHouse_39 : decode cX11_isHouse 39 = .ok (.getfield 182, 3) := by decide +kernel
theorem dX11_isHouse_42 : decode cX11_isHouse 42 = .ok (.iconst 1, 1) := by decide +kernel
theorem dX11_isHouse_43 : decode cX11_isHouse 43 = .ok (.iadd, 1) := by decide +kernel
theorem dX11_isHouse_44 : decode cX11_isHouse 44 = .ok (.iaload, 1) := by decide +kernel
theorem dX11_isHouse_45 : decode cX11_isHouse 45 = .ok (.putfield 188, 3) := by decide +kernel
theorem dX11_isHouse_48 : decode cX11_isHouse 48 = .ok (.aload_n 0, 1) := by decide +kernel
theorem dX11_isHouse_49 : decode cX11_isHouse 49 = .ok (.aload_n 0, 1) := by decide +kernel
theorem dX11_isHouse_50 : decode cX11_isHouse 50 = .ok (.getfield 7, 3) := by decide +kernel
theorem dX11_isHouse_53 : decode cX11_isHouse 53 = .ok (.aload_n 0, 1) := by decide +kernel
theorem dX11_isHouse_54 : decode cX11_isHouse 54 = .ok (.getfield 182, 3) := by decide +kernel
theorem dX11_isHouse_57 : decode cX11_isHouse 57 = .ok (.iconst 2, 1) := by decide +kernel
theorem dX11_isHouse_58 : decode cX11_isHouse 58 = .ok (.iadd, 1) := by decide +kernel
theorem dX11_isHouse_59 : decode cX11_isHouse 59 = .ok (.iaload, 1) := by decide +kernel
theorem dX11_isHouse_60 : decode cX11_isHouse 60 = .ok (.putfield 191, 3) := by decide +kernel
theorem dX11_isHouse_63 : decode cX11_isHouse 63 = .ok (.iconst 1, 1) := by decide +kernel
theorem dX11_isHouse_64 : decode cX11_isHouse 64 = .ok (.ireturn, 1) := by decide +kernel
theorem dX11_isFloor_0 : decode cX11_isFloor 0 = .ok (.iload_n 1, 1) := by decide +kernel
theorem dX11_isFloor_1 : decode cX11_isFloor 1 = .ok (.iconst 0, 1) := by decide +kernel
theorem dX11_isFloor_2 : decode cX11_isFloor 2 = .ok (.aload_n 0, 1) := by decide +kernel
theorem dX11_isFloor_3 : decode cX11_isFloor 3 = .ok (.getfield 185, 3) := by decide +kernel
theorem dX11_isFloor_6 : decode cX11_isFloor 6 = .ok (.iconst 1, 1) := by decide +kernel
theorem dX11_isFloor_7 : decode cX11_isFloor 7 = .ok (.isub, 1) := by decide +kernel
theorem dX11_isFloor_8 : decode cX11_isFloor 8 = .ok (.invokestatic 123, 3) := by decide +kernel
theorem dX11_isFloor_11 : decode cX11_isFloor 11 = .ok (.ireturn, 1) := by decide +kernel
theorem dX11_isBar_0 : decode cX11_isBar 0 = .ok (.iload_n 1, 1) := by decide +kernel
theorem dX11_isBar_1 : decode cX11_isBar 1 = .ok (.iconst 0, 1) := by decide +kernel
theorem dX11_isBar_2 : decode cX11_isBar 2 = .ok (.aload_n 0, 1) := by decide +kernel
theorem dX11_isBar_3 : decode cX11_isBar 3 = .ok (.getfield 188, 3) := by decide +kernel
theorem dX11_isBar_6 : decode cX11_isBar 6 = .ok (.iconst 1, 1) := by decide +kernel
theorem dX11_isBar_7 : decode cX11_isBar 7 = .ok (.isub, 1) := by decide +kernel
theorem dX11_isBar_8 : decode cX11_isBar 8 = .ok (.invokestatic 123, 3) := by decide +kernel
theorem dX11_isBar_11 : decode cX11_isBar 11 = .ok (.ireturn, 1) := by decide +kernel
theorem dX11_isSinger_0 : decode cX11_isSinger 0 = .ok (.iload_n 1, 1) := by decide +kernel
theorem dX11_isSinger_1 : decode cX11_isSinger 1 = .ok (.iconst 0, 1) := by decide +kernel
theorem dX11_isSinger_2 : decode cX11_isSinger 2 = .ok (.aload_n 0, 1) := by decide +kernel
theorem dX11_isSinger_3 : decode cX11_isSinger 3 = .ok (.getfield 191, 3) := by decide +kernel
theorem dX11_isSinger_6 : decode cX11_isSinger 6 = .ok (.iconst 1, 1) := by decide +kernel
theorem dX11_isSinger_7 : decode cX11_isSinger 7 = .ok (.isub, 1) := by decide +kernel
theorem dX11_isSinger_8 : decode cX11_isSinger 8 = .ok (.invokestatic 123, 3) := by decide +kernel
theorem dX11_isSinger_11 : decode cX11_isSinger 11 = .ok (.ireturn, 1) := by decide +kernel
theorem dX11_rentOf_0 : decode cX11_rentOf 0 = .ok (.aload_n 0, 1) := by decide +kernel
theorem dX11_rentOf_1 : decode cX11_rentOf 1 = .ok (.getfield 7, 3) := by decide +kernel
theorem dX11_rentOf_4 : decode cX11_rentOf 4 = .ok (.aload_n 0, 1) := by decide +kernel
theorem dX11_rentOf_5 : decode cX11_rentOf 5 = .ok (.getfield 182, 3) := by decide +kernel
theorem dX11_rentOf_8 : decode cX11_rentOf 8 = .ok (.iconst 5, 1) := by decide +kernel
theorem dX11_rentOf_9 : decode cX11_rentOf 9 = .ok (.iadd, 1) := by decide +kernel
theorem dX11_rentOf_10 : decode cX11_rentOf 10 = .ok (.iconst 2, 1) := by decide +kernel
theorem dX11_rentOf_11 : decode cX11_rentOf 11 = .ok (.iload_n 1, 1) := by decide +kernel
theorem dX11_rentOf_12 : decode cX11_rentOf 12 = .ok (.imul, 1) := by decide +kernel
theorem dX11_rentOf_13 : decode cX11_rentOf 13 = .ok (.iadd, 1) := by decide +kernel
theorem dX11_rentOf_14 : decode cX11_rentOf 14 = .ok (.iaload, 1) := by decide +kernel
theorem dX11_rentOf_15 : decode cX11_rentOf 15 = .ok (.ireturn, 1) := by decide +kernel
theorem dX11_peopleOf_0 : decode cX11_peopleOf 0 = .ok (.aload_n 0, 1) := by decide +kernel
theorem dX11_peopleOf_1 : decode cX11_peopleOf 1 = .ok (.getfield 7, 3) := by decide +kernel
theorem dX11_peopleOf_4 : decode cX11_peopleOf 4 = .ok (.aload_n 0, 1) := by decide +kernel
theorem dX11_peopleOf_5 : decode cX11_peopleOf 5 = .ok (.getfield 182, 3) := by decide +kernel
theorem dX11_peopleOf_8 : decode cX11_peopleOf 8 = .ok (.iconst 5, 1) := by decide +kernel
theorem dX11_peopleOf_9 : decode cX11_peopleOf 9 = .ok (.iadd, 1) := by decide +kernel
theorem dX11_peopleOf_10 : decode cX11_peopleOf 10 = .ok (.iconst 1, 1) := by decide +kernel
theorem dX11_peopleOf_11 : decode cX11_peopleOf 11 = .ok (.iadd, 1) := by decide +kernel
theorem dX11_peopleOf_12 : decode cX11_peopleOf 12 = .ok (.iconst 2, 1) := by decide +kernel
theorem dX11_peopleOf_13 : decode cX11_peopleOf 13 = .ok (.iload_n 1, 1) := by decide +kernel
theorem dX11_peopleOf_14 : decode cX11_peopleOf 14 = .ok (.imul, 1) := by decide +kernel
theorem dX11_peopleOf_15 : decode cX11_peopleOf 15 = .ok (.iadd, 1) := by decide +kernel
theorem dX11_peopleOf_16 : decode cX11_peopleOf 16 = .ok (.iaload, 1) := by decide +kernel
theorem dX11_peopleOf_17 : decode cX11_peopleOf 17 = .ok (.ireturn, 1) := by decide +kernel
theorem dX11_noteOf_0 : decode cX11_noteOf 0 = .ok (.aload_n 0, 1) := by decide +kernel
theorem dX11_noteOf_1 : decode cX11_noteOf 1 = .ok (.getfield 7, 3) := by decide +kernel
theorem dX11_noteOf_4 : decode cX11_noteOf 4 = .ok (.aload_n 0, 1) := by decide +kernel
theorem dX11_noteOf_5 : decode cX11_noteOf 5 = .ok (.getfield 182, 3) := by decide +kernel
theorem dX11_noteOf_8 : decode cX11_noteOf 8 = .ok (.bipush 17, 2) := by decide +kernel
theorem dX11_noteOf_10 : decode cX11_noteOf 10 = .ok (.iadd, 1) := by decide +kernel
theorem dX11_noteOf_11 : decode cX11_noteOf 11 = .ok (.iconst 4, 1) := by decide +kernel
theorem dX11_noteOf_12 : decode cX11_noteOf 12 = .ok (.iload_n 1, 1) := by decide +kernel
theorem dX11_noteOf_13 : decode cX11_noteOf 13 = .ok (.imul, 1) := by decide +kernel
theorem dX11_noteOf_14 : decode cX11_noteOf 14 = .ok (.iadd, 1) := by decide +kernel
theorem dX11_noteOf_15 : decode cX11_noteOf 15 = .ok (.iaload, 1) := by decide +kernel
theorem dX11_noteOf_16 : decode cX11_noteOf 16 = .ok (.ireturn, 1) := by decide +kernel
