theorem dX11_areNights_0 : decode cX11_areNights 0 = .ok (.aload_n 0, 1) := by decide +kernel
theorem dX11_areNights_1 : decode cX11_areNights 1 = .ok (.iconst 1, 1) := by decide +kernel
theorem dX11_areNights_2 : decode cX11_areNights 2 = .ok (.iload_n 1, 1) := by decide +kernel
theorem dX11_areNights_3 : decode cX11_areNights 3 = .ok (.invokevirtual 163, 3) := by decide +kernel
theorem dX11_areNights_6 : decode cX11_areNights 6 = .ok (.ifCond .ne 5, 3) := by decide +kernel
theorem dX11_areNights_9 : decode cX11_areNights 9 = .ok (.iconst 0, 1) := by decide +kernel
theorem dX11_areNights_10 : decode cX11_areNights 10 = .ok (.ireturn, 1) := by decide +kernel
theorem dX11_areNights_11 : decode cX11_areNights 11 = .ok (.aload_n 0, 1) := by decide +kernel
theorem dX11_areNights_12 : decode cX11_areNights 12 = .ok (.iconst 1, 1) := by decide +kernel
theorem dX11_areNights_13 : decode cX11_areNights 13 = .ok (.iload_n 1, 1) := by decide +kernel
theorem dX11_areNights_14 : decode cX11_areNights 14 = .ok (.invokestatic 179, 3) := by decide +kernel
theorem dX11_areNights_17 : decode cX11_areNights 17 = .ok (.putfield 381, 3) := by decide +kernel
theorem dX11_areNights_20 : decode cX11_areNights 20 = .ok (.iconst 1, 1) := by decide +kernel
theorem dX11_areNights_21 : decode cX11_areNights 21 = .ok (.ireturn, 1) := by decide +kernel
theorem dX11_deed_0 : decode cX11_deed 0 = .ok (.aload_n 0, 1) := by decide +kernel
theorem dX11_deed_1 : decode cX11_deed 1 = .ok (.iload_n 1, 1) := by decide +kernel
theorem dX11_deed_2 : decode cX11_deed 2 = .ok (.invokevirtual 384, 3) := by decide +kernel
theorem dX11_deed_5 : decode cX11_deed 5 = .ok (.ifCond .ne 6, 3) := by decide +kernel
theorem dX11_deed_8 : decode cX11_deed 8 = .ok (.bipush (-2), 2) := by decide +kernel
theorem dX11_deed_10 : decode cX11_deed 10 = .ok (.ireturn, 1) := by decide +kernel
theorem dX11_deed_11 : decode cX11_deed 11 = .ok (.iload_n 2, 1) := by decide +kernel
theorem dX11_deed_12 : decode cX11_deed 12 = .ok (.iconst (-1), 1) := by decide +kernel
theorem dX11_deed_13 : decode cX11_deed 13 = .ok (.if_icmp .ne 22, 3) := by decide +kernel
theorem dX11_deed_16 : decode cX11_deed 16 = .ok (.iload_n 3, 1) := by decide +kernel
theorem dX11_deed_17 : decode cX11_deed 17 = .ok (.ifCond .ne 15, 3) := by decide +kernel
theorem dX11_deed_20 : decode cX11_deed 20 = .ok (.aload_n 0, 1) := by decide +kernel
theorem dX11_deed_21 : decode cX11_deed 21 = .ok (.getfield 7, 3) := by decide +kernel
theorem dX11_deed_24 : decode cX11_deed 24 = .ok (.aload_n 0, 1) := by decide +kernel
theorem dX11_deed_25 : decode cX11_deed 25 = .ok (.getfield 381, 3) := by decide +kernel
theorem dX11_deed_28 : decode cX11_deed 28 = .ok (.iaload, 1) := by decide +kernel
theorem dX11_deed_29 : decode cX11_deed 29 = .ok (.goto 5, 3) := by decide +kernel
theorem dX11_deed_32 : decode cX11_deed 32 = .ok (.bipush (-2), 2) := by decide +kernel
theorem dX11_deed_34 : decode cX11_deed 34 = .ok (.ireturn, 1) := by decide +kernel
theorem dX11_deed_35 : decode cX11_deed 35 = .ok (.iload_n 2, 1) := by decide +kernel
theorem dX11_deed_36 : decode cX11_deed 36 = .ok (.iconst 0, 1) := by decide +kernel
theorem dX11_deed_37 : decode cX11_deed 37 = .ok (.aload_n 0, 1) := by decide +kernel
theorem dX11_deed_38 : decode cX11_deed 38 = .ok (.getfield 7, 3) := by decide +kernel
theorem dX11_deed_41 : decode cX11_deed 41 = .ok (.aload_n 0, 1) := by decide +kernel
theorem dX11_deed_42 : decode cX11_deed 42 = .ok (.getfield 381, 3) := by decide +kernel
theorem dX11_deed_45 : decode cX11_deed 45 = .ok (.iaload, 1) := by decide +kernel
theorem dX11_deed_46 : decode cX11_deed 46 = .ok (.iconst 1, 1) := by decide +kernel
theorem dX11_deed_47 : decode cX11_deed 47 = .ok (.isub, 1) := by decide +kernel
theorem dX11_deed_48 : decode cX11_deed 48 = .ok (.invokestatic 123, 3) := by decide +kernel
theorem dX11_deed_51 : decode cX11_deed 51 = .ok (.ifCond .eq 32, 3) := by decide +kernel
theorem dX11_deed_54 : decode cX11_deed 54 = .ok (.iload_n 3, 1) := by decide +kernel
theorem dX11_deed_55 : decode cX11_deed 55 = .ok (.iconst 0, 1) := by decide +kernel
theorem dX11_deed_56 : decode cX11_deed 56 = .ok (.iconst 1, 1) := by decide +kernel
theorem dX11_deed_57 : decode cX11_deed 57 = .ok (.invokestatic 123, 3) := by decide +kernel
theorem dX11_deed_60 : decode cX11_deed 60 = .ok (.ifCond .eq 23, 3) := by decide +kernel
theorem dX11_deed_63 : decode cX11_deed 63 = .ok (.aload_n 0, 1) := by decide +kernel
theorem dX11_deed_64 : decode cX11_deed 64 = .ok (.getfield 7, 3) := by decide +kernel
theorem dX11_deed_67 : decode cX11_deed 67 = .ok (.aload_n 0, 1) := by decide +kernel
theorem dX11_deed_68 : decode cX11_deed 68 = .ok (.getfield 381, 3) := by decide +kernel
theorem dX11_deed_71 : decode cX11_deed 71 = .ok (.iconst 1, 1) := by decide +kernel
theorem dX11_deed_72 : decode cX11_deed 72 = .ok (.iadd, 1) := by decide +kernel
theorem dX11_deed_73 : decode cX11_deed 73 = .ok (.iconst 2, 1) := by decide +kernel
theorem dX11_deed_74 : decode cX11_deed 74 = .ok (.iload_n 2, 1) := by decide +kernel
theorem dX11_deed_75 : decode cX11_deed 75 = .ok (.imul, 1) := by decide +kernel
theorem dX11_deed_76 : decode cX11_deed 76 = .ok (.iadd, 1) := by decide +kernel
theorem dX11_deed_77 : decode cX11_deed 77 = .ok (.iload_n 3, 1) := by decide +kernel
theorem dX11_deed_78 : decode cX11_deed 78 = .ok (.iadd, 1) := by decide +kernel
theorem dX11_deed_79 : decode cX11_deed 79 = .ok (.iaload, 1) := by decide +kernel
theorem dX11_deed_80 : decode cX11_deed 80 = .ok (.goto 5, 3) := by decide +kernel
theorem dX11_deed_83 : decode cX11_deed 83 = .ok (.bipush (-2), 2) := by decide +kernel
theorem dX11_deed_85 : decode cX11_deed 85 = .ok (.ireturn, 1) := by decide +kernel
theorem dX11_falls_0 : decode cX11_falls 0 = .ok (.aload_n 0, 1) := by decide +kernel
theorem dX11_falls_1 : decode cX11_falls 1 = .ok (.iconst 0, 1) := by decide +kernel
theorem dX11_falls_2 : decode cX11_falls 2 = .ok (.putfield 387, 3) := by decide +kernel
theorem dX11_falls_5 : decode cX11_falls 5 = .ok (.aload_n 0, 1) := by decide +kernel
theorem dX11_falls_6 : decode cX11_falls 6 = .ok (.iconst 0, 1) := by decide +kernel
theorem dX11_falls_7 : decode cX11_falls 7 = .ok (.putfield 390, 3) := by decide +kernel
theorem dX11_falls_10 : decode cX11_falls 10 = .ok (.aload_n 0, 1) := by decide +kernel
theorem dX11_falls_11 : decode cX11_falls 11 = .ok (.iconst 0, 1) := by decide +kernel
theorem dX11_falls_12 : decode cX11_falls 12 = .ok (.putfield 393, 3) := by decide +kernel
theorem dX11_falls_15 : decode cX11_falls 15 = .ok (.iconst 0, 1) := by decide +kernel
theorem dX11_falls_16 : decode cX11_falls 16 = .ok (.istore_n 1, 1) := by decide +kernel
theorem dX11_falls_17 : decode cX11_falls 17 = .ok (.iload_n 1, 1) := by decide +kernel
theorem dX11_falls_18 : decode cX11_falls 18 = .ok (.aload_n 0, 1) := by decide +kernel
theorem dX11_falls_19 : decode cX11_falls 19 = .ok (.getfield 191, 3) := by decide +kernel
theorem dX11_falls_22 : decode cX11_falls 22 = .ok (.if_icmp .ge 20, 3) := by decide +kernel
theorem dX11_falls_25 : decode cX11_falls 25 = .ok (.aload_n 0, 1) := by decide +kernel
theorem dX11_falls_26 : decode cX11_falls 26 = .ok (.getfield 56, 3) := by decide +kernel
theorem dX11_falls_29 : decode cX11_falls 29 = .ok (.iload_n 1, 1) := by decide +kernel
theorem dX11_falls_30 : decode cX11_falls 30 = .ok (.aload_n 0, 1) := by decide +kernel
theorem dX11_falls_31 : decode cX11_falls 31 = .ok (.iload_n 1, 1) := by decide +kernel
theorem dX11_falls_32 : decode cX11_falls 32 = .ok (.invokevirtual 218, 3) := by decide +kernel
theorem dX11_falls_35 : decode cX11_falls 35 = .ok (.iastore, 1) := by decide +kernel
theorem dX11_falls_36 : decode cX11_falls 36 = .ok (.iinc 1 1, 3) := by decide +kernel
theorem dX11_falls_39 : decode cX11_falls 39 = .ok (.goto (-22), 3) := by decide +kernel
theorem dX11_falls_42 : decode cX11_falls 42 = .ok (.iconst 0, 1) := by decide +kernel
theorem dX11_falls_43 : decode cX11_falls 43 = .ok (.istore_n 1, 1) := by decide +kernel
theorem dX11_falls_44 : decode cX11_falls 44 = .ok (.iload_n 1, 1) := by decide +kernel
theorem dX11_falls_45 : decode cX11_falls 45 = .ok (.bipush 8, 2) := by decide +kernel
theorem dX11_falls_47 : decode cX11_falls 47 = .ok (.if_icmp .ge 16, 3) := by decide +kernel
theorem dX11_falls_50 : decode cX11_falls 50 = .ok (.aload_n 0, 1) := by decide +kernel
theorem dX11_falls_51 : decode cX11_falls 51 = .ok (.getfield 62, 3) := by decide +kernel
theorem dX11_falls_54 : decode cX11_falls 54 = .ok (.iload_n 1, 1) := by decide +kernel
theorem dX11_falls_55 : decode cX11_falls 55 = .ok (.iconst (-1), 1) := by decide +kernel
theorem dX11_falls_56 : decode cX11_falls 56 = .ok (.iastore, 1) := by decide +kernel
theorem dX11_falls_57 : decode cX11_falls 57 = .ok (.iinc 1 1, 3) := by decide +kernel
theorem dX11_falls_60 : decode cX11_falls 60 = .ok (.goto (-16), 3) := by decide +kernel
theorem dX11_falls_63 : decode cX11_falls 63 = .ok (.return_, 1) := by decide +kernel
theorem dX11_begins_0 : decode cX11_begins 0 = .ok (.aload_n 0, 1) := by decide +kernel
theorem dX11_begins_1 : decode cX11_begins 1 = .ok (.iconst 0, 1) := by decide +kernel
theorem dX11_begins_2 : decode cX11_begins 2 = .ok (.putfield 396, 3) := by decide +kernel
theorem dX11_begins_5 : decode cX11_begins 5 = .ok (.aload_n 0, 1) := by decide +kernel
theorem dX11_begins_6 : decode cX11_begins 6 = .ok (.iconst 0, 1) := by decide +kernel
theorem dX11_begins_7 : decode cX11_begins 7 = .ok (.putfield 399, 3) := by decide +kernel
theorem dX11_begins_10 : decode cX11_begins 10 = .ok (.aload_n 0, 1) := by decide +kernel
theorem dX11_begins_11 : decode cX11_begins 11 = .ok (.iconst 0, 1) := by decide +kernel
theorem dX11_begins_12 : decode cX11_begins 12 = .ok (.putfield 402, 3) := by decide +kernel
theorem dX11_begins_15 : decode cX11_begins 15 = .ok (.aload_n 0, 1) := by decide +kernel
theorem dX11_begins_16 : decode cX11_begins 16 = .ok (.iconst 0, 1) := by decide +kernel
theorem dX11_begins_17 : decode cX11_begins 17 = .ok (.putfield 405, 3) := by decide +kernel
theorem dX11_begins_20 : decode cX11_begins 20 = .ok (.aload_n 0, 1) := by decide +kernel
theorem dX11_begins_21 : decode cX11_begins 21 = .ok (.iconst 0, 1) := by decide +kernel
theorem dX11_begins_22 : decode cX11_begins 22 = .ok (.putfield 408, 3) := by decide +kernel
theorem dX11_begins_25 : decode cX11_begins 25 = .ok (.aload_n 0, 1) := by decide +kernel
theorem dX11_begins_26 : decode cX11_begins 26 = .ok (.iconst 0, 1) := by decide +kernel
theorem dX11_begins_27 : decode cX11_begins 27 = .ok (.putfield 411, 3) := by decide +kernel
theorem dX11_begins_30 : decode cX11_begins 30 = .ok (.aload_n 0, 1) := by decide +kernel
theorem dX11_begins_31 : decode cX11_begins 31 = .ok (.iconst (-1), 1) := by decide +kernel
theorem dX11_begins_32 : decode cX11_begins 32 = .ok (.putfield 414, 3) := by decide +kernel
theorem dX11_begins_35 : decode cX11_begins 35 = .ok (.aload_n 0, 1) := by decide +kernel
theorem dX11_begins_36 : decode cX11_begins 36 = .ok (.iconst (-1), 1) := by decide +kernel
theorem dX11_begins_37 : decode cX11_begins 37 = .ok (.putfield 417, 3) := by decide +kernel
theorem dX11_begins_40 : decode cX11_begins 40 = .ok (.aload_n 0, 1) := by decide +kernel
theorem dX11_begins_41 : decode cX11_begins 41 = .ok (.iconst 0, 1) := by decide +kernel
theorem dX11_begins_42 : decode cX11_begins 42 = .ok (.putfield 420, 3) := by decide +kernel
theorem dX11_begins_45 : decode cX11_begins 45 = .ok (.iconst 0, 1) := by decide +kernel
theorem dX11_begins_46 : decode cX11_begins 46 = .ok (.istore_n 1, 1) := by decide +kernel
theorem dX11_begins_47 : decode cX11_begins 47 = .ok (.iload_n 1, 1) := by decide +kernel
theorem dX11_begins_48 : decode cX11_begins 48 = .ok (.iconst 5, 1) := by decide +kernel
theorem dX11_begins_49 : decode cX11_begins 49 = .ok (.if_icmp .ge 16, 3) := by decide +kernel
theorem dX11_begins_52 : decode cX11_begins 52 = .ok (.aload_n 0, 1) := by decide +kernel
theorem dX11_begins_53 : decode cX11_begins 53 = .ok (.getfield 59, 3) := by decide +kernel
theorem dX11_begins_56 : decode cX11_begins 56 = .ok (.iload_n 1, 1) := by decide +kernel
theorem dX11_begins_57 : decode cX11_begins 57 = .ok (.iconst 0, 1) := by decide +kernel
theorem dX11_begins_58 : decode cX11_begins 58 = .ok (.iastore, 1) := by decide +kernel
theorem dX11_begins_59 : decode cX11_begins 59 = .ok (.iinc 1 1, 3) := by decide +kernel
theorem dX11_begins_62 : decode cX11_begins 62 = .ok (.goto (-15), 3) := by decide +kernel
theorem dX11_begins_65 : decode cX11_begins 65 = .ok (.aload_n 0, 1) := by decide +kernel
theorem dX11_begins_66 : decode cX11_begins 66 = .ok (.invokevirtual 423, 3) := by decide +kernel
theorem dX11_begins_69 : decode cX11_begins 69 = .ok (.return_, 1) := by decide +kernel
theorem dX11_nextBar_0 : decode cX11_nextBar 0 = .ok (.aload_n 0, 1) := by decide +kernel
theorem dX11_nextBar_1 : decode cX11_nextBar 1 = .ok (.getfield 387, 3) := by decide +kernel
theorem dX11_nextBar_4 : decode cX11_nextBar 4 = .ok (.istore_n 1, 1) := by decide +kernel
theorem dX11_nextBar_5 : decode cX11_nextBar 5 = .ok (.iload_n 1, 1) := by decide +kernel
theorem dX11_nextBar_6 : decode cX11_nextBar 6 = .ok (.aload_n 0, 1) := by decide +kernel
theorem dX11_nextBar_7 : decode cX11_nextBar 7 = .ok (.getfield 188, 3) := by decide +kernel
theorem dX11_nextBar_10 : decode cX11_nextBar 10 = .ok (.if_icmp .ge 17, 3) := by decide +kernel
theorem dX11_nextBar_13 : decode cX11_nextBar 13 = .ok (.aload_n 0, 1) := by decide +kernel
theorem dX11_nextBar_14 : decode cX11_nextBar 14 = .ok (.iload_n 1, 1) := by decide +kernel
theorem dX11_nextBar_15 : decode cX11_nextBar 15 = .ok (.invokevirtual 194, 3) := by decide +kernel
theorem dX11_nextBar_18 : decode cX11_nextBar 18 = .ok (.ifCond .ne 9, 3) := by decide +kernel
theorem dX11_nextBar_21 : decode cX11_nextBar 21 = .ok (.iinc 1 1, 3) := by decide +kernel
theorem dX11_nextBar_24 : decode cX11_nextBar 24 = .ok (.goto (-19), 3) := by decide +kernel
theorem dX11_nextBar_27 : decode cX11_nextBar 27 = .ok (.iload_n 1, 1) := by decide +kernel
theorem dX11_nextBar_28 : decode cX11_nextBar 28 = .ok (.aload_n 0, 1) := by decide +kernel
theorem dX11_nextBar_29 : decode cX11_nextBar 29 = .ok (.getfield 188, 3) := by decide +kernel
theorem dX11_nextBar_32 : decode cX11_nextBar 32 = .ok (.if_icmp .ge 7, 3) := by decide +kernel
theorem dX11_nextBar_35 : decode cX11_nextBar 35 = .ok (.iload_n 1, 1) := by decide +kernel
theorem dX11_nextBar_36 : decode cX11_nextBar 36 = .ok (.goto 4, 3) := by decide +kernel
theorem dX11_nextBar_39 : decode cX11_nextBar 39 = .ok (.iconst (-1), 1) := by decide +kernel
theorem dX11_nextBar_40 : decode cX11_nextBar 40 = .ok (.ireturn, 1) := by decide +kernel
theorem dX11_lastSinger_0 : decode cX11_lastSinger 0 = .ok (.aload_n 0, 1) := by decide +kernel
theorem dX11_lastSinger_1 : decode cX11_lastSinger 1 = .ok (.invokevirtual 426, 3) := by decide +kernel
theorem dX11_lastSinger_4 : decode cX11_lastSinger 4 = .ok (.istore_n 1, 1) := by decide +kernel
theorem dX11_lastSinger_5 : decode cX11_lastSinger 5 = .ok (.iload_n 1, 1) := by decide +kernel
theorem dX11_lastSinger_6 : decode cX11_lastSinger 6 = .ok (.ifCond .le 14, 3) := by decide +kernel
theorem dX11_lastSinger_9 : decode cX11_lastSinger 9 = .ok (.aload_n 0, 1) := by decide +kernel
theorem dX11_lastSinger_10 : decode cX11_lastSinger 10 = .ok (.getfield 62, 3) := by decide +kernel
theorem dX11_lastSinger_13 : decode cX11_lastSinger 13 = .ok (.iload_n 1, 1) := by decide +kernel
theorem dX11_lastSinger_14 : decode cX11_lastSinger 14 = .ok (.iconst 1, 1) := by decide +kernel
theorem dX11_lastSinger_15 : decode cX11_lastSinger 15 = .ok (.isub, 1) := by decide +kernel
theorem dX11_lastSinger_16 : decode cX11_lastSinger 16 = .ok (.iaload, 1) := by decide +kernel
theorem dX11_lastSinger_17 : decode cX11_lastSinger 17 = .ok (.goto 4, 3) := by decide +kernel
theorem dX11_lastSinger_20 : decode cX11_lastSinger 20 = .ok (.iconst (-1), 1) := by decide +kernel
theorem dX11_lastSinger_21 : decode cX11_lastSinger 21 = .ok (.ireturn, 1) := by decide +kernel
theorem dX11_sings_0 : decode cX11_sings 0 = .ok (.aload_n 0, 1) := by decide +kernel
theorem dX11_sings_1 : decode cX11_sings 1 = .ok (.invokevirtual 426, 3) := by decide +kernel
theorem dX11_sings_4 : decode cX11_sings 4 = .ok (.istore_n 2, 1) := by decide +kernel
theorem dX11_sings_5 : decode cX11_sings 5 = .ok (.aload_n 0, 1) := by decide +kernel
theorem dX11_sings_6 : decode cX11_sings 6 = .ok (.iload_n 1, 1) := by decide +kernel
theorem dX11_sings_7 : decode cX11_sings 7 = .ok (.invokevirtual 212, 3) := by decide +kernel
theorem dX11_sings_10 : decode cX11_sings 10 = .ok (.ifCond .eq 30, 3) := by decide +kernel
theorem dX11_sings_13 : decode cX11_sings 13 = .ok (.iload_n 2, 1) := by decide +kernel
theorem dX11_sings_14 : decode cX11_sings 14 = .ok (.iconst (-1), 1) := by decide +kernel
theorem dX11_sings_15 : decode cX11_sings 15 = .ok (.if_icmp .eq 25, 3) := by decide +kernel
theorem dX11_sings_18 : decode cX11_sings 18 = .ok (.aload_n 0, 1) := by decide +kernel
theorem dX11_sings_19 : decode cX11_sings 19 = .ok (.invokevirtual 429, 3) := by decide +kernel
theorem dX11_sings_22 : decode cX11_sings 22 = .ok (.iload_n 1, 1) := by decide +kernel
theorem dX11_sings_23 : decode cX11_sings 23 = .ok (.if_icmp .eq 17, 3) := by decide +kernel
theorem dX11_sings_26 : decode cX11_sings 26 = .ok (.aload_n 0, 1) := by decide +kernel
theorem dX11_sings_27 : decode cX11_sings 27 = .ok (.getfield 56, 3) := by decide +kernel
theorem dX11_sings_30 : decode cX11_sings 30 = .ok (.iload_n 1, 1) := by decide +kernel
theorem dX11_sings_31 : decode cX11_sings 31 = .ok (.iaload, 1) := by decide +kernel
theorem dX11_sings_32 : decode cX11_sings 32 = .ok (.aload_n 0, 1) := by decide +kernel
theorem dX11_sings_33 : decode cX11_sings 33 = .ok (.iload_n 2, 1) := by decide +kernel
theorem dX11_sings_34 : decode cX11_sings 34 = .ok (.invokevirtual 231, 3) := by decide +kernel
theorem dX11_sings_37 : decode cX11_sings 37 = .ok (.if_icmp .ge 5, 3) := by decide +kernel
theorem dX11_sings_40 : decode cX11_sings 40 = .ok (.iconst 0, 1) := by decide +kernel
theorem dX11_sings_41 : decode cX11_sings 41 = .ok (.ireturn, 1) := by decide +kernel
theorem dX11_sings_42 : decode cX11_sings 42 = .ok (.aload_n 0, 1) := by decide +kernel
theorem dX11_sings_43 : decode cX11_sings 43 = .ok (.getfield 56, 3) := by decide +kernel
theorem dX11_sings_46 : decode cX11_sings 46 = .ok (.iload_n 1, 1) := by decide +kernel
theorem dX11_sings_47 : decode cX11_sings 47 = .ok (.dup2, 1) := by decide +kernel
theorem dX11_sings_48 : decode cX11_sings 48 = .ok (.iaload, 1) := by decide +kernel
theorem dX11_sings_49 : decode cX11_sings 49 = .ok (.aload_n 0, 1) := by decide +kernel
theorem dX11_sings_50 : decode cX11_sings 50 = .ok (.iload_n 2, 1) := by decide +kernel
theorem dX11_sings_51 : decode cX11_sings 51 = .ok (.invokevirtual 231, 3) := by decide +kernel
theorem dX11_sings_54 : decode cX11_sings 54 = .ok (.isub, 1) := by decide +kernel
theorem dX11_sings_55 : decode cX11_sings 55 = .ok (.iastore, 1) := by decide +kernel
theorem dX11_sings_56 : decode cX11_sings 56 = .ok (.aload_n 0, 1) := by decide +kernel
theorem dX11_sings_57 : decode cX11_sings 57 = .ok (.getfield 59, 3) := by decide +kernel
theorem dX11_sings_60 : decode cX11_sings 60 = .ok (.iload_n 1, 1) := by decide +kernel
theorem dX11_sings_61 : decode cX11_sings 61 = .ok (.dup2, 1) := by decide +kernel
theorem dX11_sings_62 : decode cX11_sings 62 = .ok (.iaload, 1) := by decide +kernel
theorem dX11_sings_63 : decode cX11_sings 63 = .ok (.iconst 1, 1) := by decide +kernel
theorem dX11_sings_64 : decode cX11_sings 64 = .ok (.iadd, 1) := by decide +kernel
theorem dX11_sings_65 : decode cX11_sings 65 = .ok (.iastore, 1) := by decide +kernel
theorem dX11_sings_66 : decode cX11_sings 66 = .ok (.aload_n 0, 1) := by decide +kernel
theorem dX11_sings_67 : decode cX11_sings 67 = .ok (.iload_n 1, 1) := by decide +kernel
theorem dX11_sings_68 : decode cX11_sings 68 = .ok (.aload_n 0, 1) := by decide +kernel
theorem dX11_sings_69 : decode cX11_sings 69 = .ok (.iload_n 2, 1) := by decide +kernel
theorem dX11_sings_70 : decode cX11_sings 70 = .ok (.invokevirtual 194, 3) := by decide +kernel
theorem dX11_sings_73 : decode cX11_sings 73 = .ok (.aload_n 0, 1) := by decide +kernel
theorem dX11_sings_74 : decode cX11_sings 74 = .ok (.getfield 408, 3) := by decide +kernel
theorem dX11_sings_77 : decode cX11_sings 77 = .ok (.iload_n 1, 1) := by decide +kernel
theorem dX11_sings_78 : decode cX11_sings 78 = .ok (.ishr, 1) := by decide +kernel
theorem dX11_sings_79 : decode cX11_sings 79 = .ok (.iconst 1, 1) := by decide +kernel
theorem dX11_sings_80 : decode cX11_sings 80 = .ok (.iand, 1) := by decide +kernel
theorem dX11_sings_81 : decode cX11_sings 81 = .ok (.iconst 2, 1) := by decide +kernel
theorem dX11_sings_82 : decode cX11_sings 82 = .ok (.imul, 1) := by decide +kernel
theorem dX11_sings_83 : decode cX11_sings 83 = .ok (.invokevirtual 228, 3) := by decide +kernel
theorem dX11_sings_86 : decode cX11_sings 86 = .ok (.ifCond .ne 29, 3) := by decide +kernel
theorem dX11_sings_89 : decode cX11_sings 89 = .ok (.aload_n 0, 1) := by decide +kernel
theorem dX11_sings_90 : decode cX11_sings 90 = .ok (.dup, 1) := by decide +kernel
theorem dX11_sings_91 : decode cX11_sings 91 = .ok (.getfield 405, 3) := by decide +kernel
theorem dX11_sings_94 : decode cX11_sings 94 = .ok (.iconst 1, 1) := by decide +kernel
theorem dX11_sings_95 : decode cX11_sings 95 = .ok (.iadd, 1) := by decide +kernel
theorem dX11_sings_96 : decode cX11_sings 96 = .ok (.putfield 405, 3) := by decide +kernel
theorem dX11_sings_99 : decode cX11_sings 99 = .ok (.aload_n 0, 1) := by decide +kernel
theorem dX11_sings_100 : decode cX11_sings 100 = .ok (.dup, 1) := by decide +kernel
theorem dX11_sings_101 : decode cX11_sings 101 = .ok (.getfield 393, 3) := by decide +kernel
theorem dX11_sings_104 : decode cX11_sings 104 = .ok (.iconst 1, 1) := by decide +kernel
theorem dX11_sings_105 : decode cX11_sings 105 = .ok (.aload_n 0, 1) := by decide +kernel
theorem dX11_sings_106 : decode cX11_sings 106 = .ok (.iload_n 2, 1) := by decide +kernel
theorem dX11_sings_107 : decode cX11_sings 107 = .ok (.invokevirtual 265, 3) := by decide +kernel
theorem dX11_sings_110 : decode cX11_sings 110 = .ok (.ishl, 1) := by decide +kernel
theorem dX11_sings_111 : decode cX11_sings 111 = .ok (.ior, 1) := by decide +kernel
theorem dX11_sings_112 : decode cX11_sings 112 = .ok (.putfield 393, 3) := by decide +kernel
theorem dX11_sings_115 : decode cX11_sings 115 = .ok (.aload_n 0, 1) := by decide +kernel
theorem dX11_sings_116 : decode cX11_sings 116 = .ok (.getfield 62, 3) := by decide +kernel
theorem dX11_sings_119 : decode cX11_sings 119 = .ok (.iload_n 2, 1) := by decide +kernel
theorem dX11_sings_120 : decode cX11_sings 120 = .ok (.iload_n 1, 1) := by decide +kernel
theorem dX11_sings_121 : decode cX11_sings 121 = .ok (.iastore, 1) := by decide +kernel
theorem dX11_sings_122 : decode cX11_sings 122 = .ok (.aload_n 0, 1) := by decide +kernel
theorem dX11_sings_123 : decode cX11_sings 123 = .ok (.iload_n 2, 1) := by decide +kernel
theorem dX11_sings_124 : decode cX11_sings 124 = .ok (.iconst 1, 1) := by decide +kernel
theorem dX11_sings_125 : decode cX11_sings 125 = .ok (.iadd, 1) := by decide +kernel
theorem dX11_sings_126 : decode cX11_sings 126 = .ok (.putfield 387, 3) := by decide +kernel
theorem dX11_sings_129 : decode cX11_sings 129 = .ok (.iconst 1, 1) := by decide +kernel
theorem dX11_sings_130 : decode cX11_sings 130 = .ok (.ireturn, 1) := by decide +kernel
theorem dX11_wakesFrom_0 : decode cX11_wakesFrom 0 = .ok (.aload_n 0, 1) := by decide +kernel
theorem dX11_wakesFrom_1 : decode cX11_wakesFrom 1 = .ok (.dup, 1) := by decide +kernel
theorem dX11_wakesFrom_2 : decode cX11_wakesFrom 2 = .ok (.getfield 390, 3) := by decide +kernel
theorem dX11_wakesFrom_5 : decode cX11_wakesFrom 5 = .ok (.iconst 1, 1) := by decide +kernel
theorem dX11_wakesFrom_6 : decode cX11_wakesFrom 6 = .ok (.aload_n 0, 1) := by decide +kernel
theorem dX11_wakesFrom_7 : decode cX11_wakesFrom 7 = .ok (.getfield 185, 3) := by decide +kernel
theorem dX11_wakesFrom_10 : decode cX11_wakesFrom 10 = .ok (.ishl, 1) := by decide +kernel
theorem dX11_wakesFrom_11 : decode cX11_wakesFrom 11 = .ok (.iconst 1, 1) := by decide +kernel
theorem dX11_wakesFrom_12 : decode cX11_wakesFrom 12 = .ok (.iload_n 1, 1) := by decide +kernel
theorem dX11_wakesFrom_13 : decode cX11_wakesFrom 13 = .ok (.ishl, 1) := by decide +kernel
theorem dX11_wakesFrom_14 : decode cX11_wakesFrom 14 = .ok (.isub, 1) := by decide +kernel
theorem dX11_wakesFrom_15 : decode cX11_wakesFrom 15 = .ok (.ior, 1) := by decide +kernel
theorem dX11_wakesFrom_16 : decode cX11_wakesFrom 16 = .ok (.putfield 390, 3) := by decide +kernel
theorem dX11_wakesFrom_19 : decode cX11_wakesFrom 19 = .ok (.return_, 1) := by decide +kernel
theorem dX11_skips_0 : decode cX11_skips 0 = .ok (.aload_n 0, 1) := by decide +kernel
theorem dX11_skips_1 : decode cX11_skips 1 = .ok (.invokevirtual 426, 3) := by decide +kernel
theorem dX11_skips_4 : decode cX11_skips 4 = .ok (.istore_n 1, 1) := by decide +kernel
theorem dX11_skips_5 : decode cX11_skips 5 = .ok (.iload_n 1, 1) := by decide +kernel
theorem dX11_skips_6 : decode cX11_skips 6 = .ok (.iconst (-1), 1) := by decide +kernel
theorem dX11_skips_7 : decode cX11_skips 7 = .ok (.if_icmp .ne 5, 3) := by decide +kernel
theorem dX11_skips_10 : decode cX11_skips 10 = .ok (.iconst 0, 1) := by decide +kernel
theorem dX11_skips_11 : decode cX11_skips 11 = .ok (.ireturn, 1) := by decide +kernel
theorem dX11_skips_12 : decode cX11_skips 12 = .ok (.aload_n 0, 1) := by decide +kernel
theorem dX11_skips_13 : decode cX11_skips 13 = .ok (.aload_n 0, 1) := by decide +kernel
theorem dX11_skips_14 : decode cX11_skips 14 = .ok (.iload_n 1, 1) := by decide +kernel
theorem dX11_skips_15 : decode cX11_skips 15 = .ok (.invokevirtual 265, 3) := by decide +kernel
theorem dX11_skips_18 : decode cX11_skips 18 = .ok (.invokevirtual 432, 3) := by decide +kernel
theorem dX11_skips_21 : decode cX11_skips 21 = .ok (.aload_n 0, 1) := by decide +kernel
theorem dX11_skips_22 : decode cX11_skips 22 = .ok (.iload_n 1, 1) := by decide +kernel
theorem dX11_skips_23 : decode cX11_skips 23 = .ok (.iconst 1, 1) := by decide +kernel
theorem dX11_skips_24 : decode cX11_skips 24 = .ok (.iadd, 1) := by decide +kernel
theorem dX11_skips_25 : decode cX11_skips 25 = .ok (.putfield 387, 3) := by decide +kernel
theorem dX11_skips_28 : decode cX11_skips 28 = .ok (.iconst 1, 1) := by decide +kernel
theorem dX11_skips_29 : decode cX11_skips 29 = .ok (.ireturn, 1) := by decide +kernel
theorem dX11_nightGoes_0 : decode cX11_nightGoes 0 = .ok (.aload_n 0, 1) := by decide +kernel
theorem dX11_nightGoes_1 : decode cX11_nightGoes 1 = .ok (.getfield 396, 3) := by decide +kernel
theorem dX11_nightGoes_4 : decode cX11_nightGoes 4 = .ok (.bipush 99, 2) := by decide +kernel
theorem dX11_nightGoes_6 : decode cX11_nightGoes 6 = .ok (.if_icmp .ne 5, 3) := by decide +kernel
theorem dX11_nightGoes_9 : decode cX11_nightGoes 9 = .ok (.iconst 0, 1) := by decide +kernel
theorem dX11_nightGoes_10 : decode cX11_nightGoes 10 = .ok (.ireturn, 1) := by decide +kernel
theorem dX11_nightGoes_11 : decode cX11_nightGoes 11 = .ok (.aload_n 0, 1) := by decide +kernel
theorem dX11_nightGoes_12 : decode cX11_nightGoes 12 = .ok (.getfield 387, 3) := by decide +kernel
theorem dX11_nightGoes_15 : decode cX11_nightGoes 15 = .ok (.istore_n 1, 1) := by decide +kernel
theorem dX11_nightGoes_16 : decode cX11_nightGoes 16 = .ok (.iload_n 1, 1) := by decide +kernel
theorem dX11_nightGoes_17 : decode cX11_nightGoes 17 = .ok (.aload_n 0, 1) := by decide +kernel
theorem dX11_nightGoes_18 : decode cX11_nightGoes 18 = .ok (.getfield 188, 3) := by decide +kernel
theorem dX11_nightGoes_21 : decode cX11_nightGoes 21 = .ok (.if_icmp .ge 26, 3) := by decide +kernel
theorem dX11_nightGoes_24 : decode cX11_nightGoes 24 = .ok (.aload_n 0, 1) := by decide +kernel
theorem dX11_nightGoes_25 : decode cX11_nightGoes 25 = .ok (.iload_n 1, 1) := by decide +kernel
theorem dX11_nightGoes_26 : decode cX11_nightGoes 26 = .ok (.invokevirtual 194, 3) := by decide +kernel
theorem dX11_nightGoes_29 : decode cX11_nightGoes 29 = .ok (.ifCond .le 12, 3) := by decide +kernel
theorem dX11_nightGoes_32 : decode cX11_nightGoes 32 = .ok (.aload_n 0, 1) := by decide +kernel
theorem dX11_nightGoes_33 : decode cX11_nightGoes 33 = .ok (.aload_n 0, 1) := by decide +kernel
theorem dX11_nightGoes_34 : decode cX11_nightGoes 34 = .ok (.iload_n 1, 1) := by decide +kernel
theorem dX11_nightGoes_35 : decode cX11_nightGoes 35 = .ok (.invokevirtual 265, 3) := by decide +kernel
theorem dX11_nightGoes_38 : decode cX11_nightGoes 38 = .ok (.invokevirtual 432, 3) := by decide +kernel
theorem dX11_nightGoes_41 : decode cX11_nightGoes 41 = .ok (.iinc 1 1, 3) := by decide +kernel
theorem dX11_nightGoes_44 : decode cX11_nightGoes 44 = .ok (.goto (-28), 3) := by decide +kernel
theorem dX11_nightGoes_47 : decode cX11_nightGoes 47 = .ok (.aload_n 0, 1) := by decide +kernel
theorem dX11_nightGoes_48 : decode cX11_nightGoes 48 = .ok (.aload_n 0, 1) := by decide +kernel
theorem dX11_nightGoes_49 : decode cX11_nightGoes 49 = .ok (.getfield 390, 3) := by decide +kernel
theorem dX11_nightGoes_52 : decode cX11_nightGoes 52 = .ok (.invokevirtual 271, 3) := by decide +kernel
theorem dX11_nightGoes_55 : decode cX11_nightGoes 55 = .ok (.istore_n 1, 1) := by decide +kernel
theorem dX11_nightGoes_56 : decode cX11_nightGoes 56 = .ok (.aload_n 0, 1) := by decide +kernel
theorem dX11_nightGoes_57 : decode cX11_nightGoes 57 = .ok (.dup, 1) := by decide +kernel
theorem dX11_nightGoes_58 : decode cX11_nightGoes 58 = .ok (.getfield 399, 3) := by decide +kernel
theorem dX11_nightGoes_61 : decode cX11_nightGoes 61 = .ok (.iload_n 1, 1) := by decide +kernel
theorem dX11_nightGoes_62 : decode cX11_nightGoes 62 = .ok (.iadd, 1) := by decide +kernel
theorem dX11_nightGoes_63 : decode cX11_nightGoes 63 = .ok (.putfield 399, 3) := by decide +kernel
theorem dX11_nightGoes_66 : decode cX11_nightGoes 66 = .ok (.aload_n 0, 1) := by decide +kernel
theorem dX11_nightGoes_67 : decode cX11_nightGoes 67 = .ok (.dup, 1) := by decide +kernel
theorem dX11_nightGoes_68 : decode cX11_nightGoes 68 = .ok (.getfield 420, 3) := by decide +kernel
theorem dX11_nightGoes_71 : decode cX11_nightGoes 71 = .ok (.iload_n 1, 1) := by decide +kernel
theorem dX11_nightGoes_72 : decode cX11_nightGoes 72 = .ok (.ifCond .ne 7, 3) := by decide +kernel
theorem dX11_nightGoes_75 : decode cX11_nightGoes 75 = .ok (.iconst 1, 1) := by decide +kernel
theorem dX11_nightGoes_76 : decode cX11_nightGoes 76 = .ok (.goto 4, 3) := by decide +kernel
theorem dX11_nightGoes_79 : decode cX11_nightGoes 79 = .ok (.iconst 0, 1) := by decide +kernel
theorem dX11_nightGoes_80 : decode cX11_nightGoes 80 = .ok (.iadd, 1) := by decide +kernel
theorem dX11_nightGoes_81 : decode cX11_nightGoes 81 = .ok (.putfield 420, 3) := by decide +kernel
theorem dX11_nightGoes_84 : decode cX11_nightGoes 84 = .ok (.aload_n 0, 1) := by decide +kernel
theorem dX11_nightGoes_85 : decode cX11_nightGoes 85 = .ok (.iload_n 1, 1) := by decide +kernel
theorem dX11_nightGoes_86 : decode cX11_nightGoes 86 = .ok (.aload_n 0, 1) := by decide +kernel
theorem dX11_nightGoes_87 : decode cX11_nightGoes 87 = .ok (.getfield 417, 3) := by decide +kernel
theorem dX11_nightGoes_90 : decode cX11_nightGoes 90 = .ok (.if_icmp .le 10, 3) := by decide +kernel
theorem dX11_nightGoes_93 : decode cX11_nightGoes 93 = .ok (.aload_n 0, 1) := by decide +kernel
theorem dX11_nightGoes_94 : decode cX11_nightGoes 94 = .ok (.getfield 396, 3) := by decide +kernel
theorem dX11_nightGoes_97 : decode cX11_nightGoes 97 = .ok (.goto 7, 3) := by decide +kernel
theorem dX11_nightGoes_100 : decode cX11_nightGoes 100 = .ok (.aload_n 0, 1) := by decide +kernel
theorem dX11_nightGoes_101 : decode cX11_nightGoes 101 = .ok (.getfield 414, 3) := by decide +kernel
theorem dX11_nightGoes_104 : decode cX11_nightGoes 104 = .ok (.putfield 414, 3) := by decide +kernel
theorem dX11_nightGoes_107 : decode cX11_nightGoes 107 = .ok (.aload_n 0, 1) := by decide +kernel
theorem dX11_nightGoes_108 : decode cX11_nightGoes 108 = .ok (.iload_n 1, 1) := by decide +kernel
theorem dX11_nightGoes_109 : decode cX11_nightGoes 109 = .ok (.aload_n 0, 1) := by decide +kernel
theorem dX11_nightGoes_110 : decode cX11_nightGoes 110 = .ok (.getfield 417, 3) := by decide +kernel
theorem dX11_nightGoes_113 : decode cX11_nightGoes 113 = .ok (.if_icmp .le 7, 3) := by decide +kernel
theorem dX11_nightGoes_116 : decode cX11_nightGoes 116 = .ok (.iload_n 1, 1) := by decide +kernel
theorem dX11_nightGoes_117 : decode cX11_nightGoes 117 = .ok (.goto 7, 3) := by decide +kernel
theorem dX11_nightGoes_120 : decode cX11_nightGoes 120 = .ok (.aload_n 0, 1) := by decide +kernel
theorem dX11_nightGoes_121 : decode cX11_nightGoes 121 = .ok (.getfield 417, 3) := by decide +kernel
theorem dX11_nightGoes_124 : decode cX11_nightGoes 124 = .ok (.putfield 417, 3) := by decide +kernel
theorem dX11_nightGoes_127 : decode cX11_nightGoes 127 = .ok (.iconst 0, 1) := by decide +kernel
theorem dX11_nightGoes_128 : decode cX11_nightGoes 128 = .ok (.istore_n 2, 1) := by decide +kernel
theorem dX11_nightGoes_129 : decode cX11_nightGoes 129 = .ok (.iload_n 2, 1) := by decide +kernel
theorem dX11_nightGoes_130 : decode cX11_nightGoes 130 = .ok (.aload_n 0, 1) := by decide +kernel
theorem dX11_nightGoes_131 : decode cX11_nightGoes 131 = .ok (.getfield 185, 3) := by decide +kernel
theorem dX11_nightGoes_134 : decode cX11_nightGoes 134 = .ok (.if_icmp .ge 38, 3) := by decide +kernel
theorem dX11_nightGoes_137 : decode cX11_nightGoes 137 = .ok (.aload_n 0, 1) := by decide +kernel
theorem dX11_nightGoes_138 : decode cX11_nightGoes 138 = .ok (.dup, 1) := by decide +kernel
theorem dX11_nightGoes_139 : decode cX11_nightGoes 139 = .ok (.getfield 402, 3) := by decide +kernel
theorem dX11_nightGoes_142 : decode cX11_nightGoes 142 = .ok (.aload_n 0, 1) := by decide +kernel
theorem dX11_nightGoes_143 : decode cX11_nightGoes 143 = .ok (.getfield 390, 3) := by decide +kernel
theorem dX11_nightGoes_146 : decode cX11_nightGoes 146 = .ok (.iload_n 2, 1) := by decide +kernel
theorem dX11_nightGoes_147 : decode cX11_nightGoes 147 = .ok (.ishr, 1) := by decide +kernel
theorem dX11_nightGoes_148 : decode cX11_nightGoes 148 = .ok (.iconst 1, 1) := by decide +kernel
theorem dX11_nightGoes_149 : decode cX11_nightGoes 149 = .ok (.iand, 1) := by decide +kernel
theorem dX11_nightGoes_150 : decode cX11_nightGoes 150 = .ok (.ifCond .ne 11, 3) := by decide +kernel
theorem dX11_nightGoes_153 : decode cX11_nightGoes 153 = .ok (.aload_n 0, 1) := by decide +kernel
theorem dX11_nightGoes_154 : decode cX11_nightGoes 154 = .ok (.iload_n 2, 1) := by decide +kernel
theorem dX11_nightGoes_155 : decode cX11_nightGoes 155 = .ok (.invokevirtual 203, 3) := by decide +kernel
theorem dX11_nightGoes_158 : decode cX11_nightGoes 158 = .ok (.goto 4, 3) := by decide +kernel
theorem dX11_nightGoes_161 : decode cX11_nightGoes 161 = .ok (.iconst 0, 1) := by decide +kernel
theorem dX11_nightGoes_162 : decode cX11_nightGoes 162 = .ok (.iadd, 1) := by decide +kernel
theorem dX11_nightGoes_163 : decode cX11_nightGoes 163 = .ok (.putfield 402, 3) := by decide +kernel
theorem dX11_nightGoes_166 : decode cX11_nightGoes 166 = .ok (.iinc 2 1, 3) := by decide +kernel
theorem dX11_nightGoes_169 : decode cX11_nightGoes 169 = .ok (.goto (-40), 3) := by decide +kernel
theorem dX11_nightGoes_172 : decode cX11_nightGoes 172 = .ok (.aload_n 0, 1) := by decide +kernel
theorem dX11_nightGoes_173 : decode cX11_nightGoes 173 = .ok (.dup, 1) := by decide +kernel
theorem dX11_nightGoes_174 : decode cX11_nightGoes 174 = .ok (.getfield 396, 3) := by decide +kernel
theorem dX11_nightGoes_177 : decode cX11_nightGoes 177 = .ok (.iconst 1, 1) := by decide +kernel
theorem dX11_nightGoes_178 : decode cX11_nightGoes 178 = .ok (.iadd, 1) := by decide +kernel
theorem dX11_nightGoes_179 : decode cX11_nightGoes 179 = .ok (.putfield 396, 3) := by decide +kernel
theorem dX11_nightGoes_182 : decode cX11_nightGoes 182 = .ok (.aload_n 0, 1) := by decide +kernel
theorem dX11_nightGoes_183 : decode cX11_nightGoes 183 = .ok (.invokevirtual 423, 3) := by decide +kernel
theorem dX11_nightGoes_186 : decode cX11_nightGoes 186 = .ok (.iconst 1, 1) := by decide +kernel
theorem dX11_nightGoes_187 : decode cX11_nightGoes 187 = .ok (.ireturn, 1) := by decide +kernel
theorem dX11_does_0 : decode cX11_does 0 = .ok (.iload_n 1, 1) := by decide +kernel
theorem dX11_does_1 : decode cX11_does 1 = .ok (.tableswitch 84 0 3 #[31, 37, 37, 79], 31) := by decide +kernel
theorem dX11_does_32 : decode cX11_does 32 = .ok (.aload_n 0, 1) := by decide +kernel
theorem dX11_does_33 : decode cX11_does 33 = .ok (.iload_n 2, 1) := by decide +kernel
theorem dX11_does_34 : decode cX11_does 34 = .ok (.invokevirtual 435, 3) := by decide +kernel
theorem dX11_does_37 : decode cX11_does 37 = .ok (.ireturn, 1) := by decide +kernel
theorem dX11_does_38 : decode cX11_does 38 = .ok (.aload_n 0, 1) := by decide +kernel
theorem dX11_does_39 : decode cX11_does 39 = .ok (.iload_n 2, 1) := by decide +kernel
theorem dX11_does_40 : decode cX11_does 40 = .ok (.invokevirtual 212, 3) := by decide +kernel
theorem dX11_does_43 : decode cX11_does 43 = .ok (.ifCond .ne 5, 3) := by decide +kernel
theorem dX11_does_46 : decode cX11_does 46 = .ok (.iconst 0, 1) := by decide +kernel
theorem dX11_does_47 : decode cX11_does 47 = .ok (.ireturn, 1) := by decide +kernel
theorem dX11_does_48 : decode cX11_does 48 = .ok (.aload_n 0, 1) := by decide +kernel
theorem dX11_does_49 : decode cX11_does 49 = .ok (.iload_n 1, 1) := by decide +kernel
theorem dX11_does_50 : decode cX11_does 50 = .ok (.iconst 1, 1) := by decide +kernel
theorem dX11_does_51 : decode cX11_does 51 = .ok (.if_icmp .ne 14, 3) := by decide +kernel
theorem dX11_does_54 : decode cX11_does 54 = .ok (.aload_n 0, 1) := by decide +kernel
theorem dX11_does_55 : decode cX11_does 55 = .ok (.getfield 408, 3) := by decide +kernel
theorem dX11_does_58 : decode cX11_does 58 = .ok (.iconst 1, 1) := by decide +kernel
theorem dX11_does_59 : decode cX11_does 59 = .ok (.iload_n 2, 1) := by decide +kernel
theorem dX11_does_60 : decode cX11_does 60 = .ok (.ishl, 1) := by decide +kernel
theorem dX11_does_61 : decode cX11_does 61 = .ok (.ior, 1) := by decide +kernel
theorem dX11_does_62 : decode cX11_does 62 = .ok (.goto 13, 3) := by decide +kernel
theorem dX11_does_65 : decode cX11_does 65 = .ok (.aload_n 0, 1) := by decide +kernel
theorem dX11_does_66 : decode cX11_does 66 = .ok (.getfield 408, 3) := by decide +kernel
theorem dX11_does_69 : decode cX11_does 69 = .ok (.iconst 1, 1) := by decide +kernel
theorem dX11_does_70 : decode cX11_does 70 = .ok (.iload_n 2, 1) := by decide +kernel
theorem dX11_does_71 : decode cX11_does 71 = .ok (.ishl, 1) := by decide +kernel
theorem dX11_does_72 : decode cX11_does 72 = .ok (.iconst (-1), 1) := by decide +kernel
theorem dX11_does_73 : decode cX11_does 73 = .ok (.ixor, 1) := by decide +kernel
theorem dX11_does_74 : decode cX11_does 74 = .ok (.iand, 1) := by decide +kernel
theorem dX11_does_75 : decode cX11_does 75 = .ok (.putfield 408, 3) := by decide +kernel
theorem dX11_does_78 : decode cX11_does 78 = .ok (.iconst 1, 1) := by decide +kernel
theorem dX11_does_79 : decode cX11_does 79 = .ok (.ireturn, 1) := by decide +kernel
theorem dX11_does_80 : decode cX11_does 80 = .ok (.aload_n 0, 1) := by decide +kernel
theorem dX11_does_81 : decode cX11_does 81 = .ok (.invokevirtual 438, 3) := by decide +kernel
theorem dX11_does_84 : decode cX11_does 84 = .ok (.ireturn, 1) := by decide +kernel
theorem dX11_does_85 : decode cX11_does 85 = .ok (.aload_n 0, 1) := by decide +kernel
theorem dX11_does_86 : decode cX11_does 86 = .ok (.invokevirtual 441, 3) := by decide +kernel
theorem dX11_does_89 : decode cX11_does 89 = .ok (.ireturn, 1) := by decide +kernel
theorem dX11_doesTold_0 : decode cX11_doesTold 0 = .ok (.aload_n 0, 1) := by decide +kernel
theorem dX11_doesTold_1 : decode cX11_doesTold 1 = .ok (.aload_n 0, 1) := by decide +kernel
theorem dX11_doesTold_2 : decode cX11_doesTold 2 = .ok (.getfield 7, 3) := by decide +kernel
theorem dX11_doesTold_5 : decode cX11_doesTold 5 = .ok (.aload_n 0, 1) := by decide +kernel
theorem dX11_doesTold_6 : decode cX11_doesTold 6 = .ok (.getfield 381, 3) := by decide +kernel
theorem dX11_doesTold_9 : decode cX11_doesTold 9 = .ok (.iconst 1, 1) := by decide +kernel
theorem dX11_doesTold_10 : decode cX11_doesTold 10 = .ok (.iadd, 1) := by decide +kernel
theorem dX11_doesTold_11 : decode cX11_doesTold 11 = .ok (.iconst 2, 1) := by decide +kernel
theorem dX11_doesTold_12 : decode cX11_doesTold 12 = .ok (.iload_n 1, 1) := by decide +kernel
theorem dX11_doesTold_13 : decode cX11_doesTold 13 = .ok (.imul, 1) := by decide +kernel
theorem dX11_doesTold_14 : decode cX11_doesTold 14 = .ok (.iadd, 1) := by decide +kernel
theorem dX11_doesTold_15 : decode cX11_doesTold 15 = .ok (.iaload, 1) := by decide +kernel
theorem dX11_doesTold_16 : decode cX11_doesTold 16 = .ok (.aload_n 0, 1) := by decide +kernel
theorem dX11_doesTold_17 : decode cX11_doesTold 17 = .ok (.getfield 7, 3) := by decide +kernel
theorem dX11_doesTold_20 : decode cX11_doesTold 20 = .ok (.aload_n 0, 1) := by decide +kernel
theorem dX11_doesTold_21 : decode cX11_doesTold 21 = .ok (.getfield 381, 3) := by decide +kernel
theorem dX11_doesTold_24 : decode cX11_doesTold 24 = .ok (.iconst 2, 1) := by decide +kernel
theorem dX11_doesTold_25 : decode cX11_doesTold 25 = .ok (.iadd, 1) := by decide +kernel
theorem dX11_doesTold_26 : decode cX11_doesTold 26 = .ok (.iconst 2, 1) := by decide +kernel
theorem dX11_doesTold_27 : decode cX11_doesTold 27 = .ok (.iload_n 1, 1) := by decide +kernel
theorem dX11_doesTold_28 : decode cX11_doesTold 28 = .ok (.imul, 1) := by decide +kernel
theorem dX11_doesTold_29 : decode cX11_doesTold 29 = .ok (.iadd, 1) := by decide +kernel
theorem dX11_doesTold_30 : decode cX11_doesTold 30 = .ok (.iaload, 1) := by decide +kernel
theorem dX11_doesTold_31 : decode cX11_doesTold 31 = .ok (.invokevirtual 444, 3) := by decide +kernel
theorem dX11_doesTold_34 : decode cX11_doesTold 34 = .ok (.ireturn, 1) := by decide +kernel
theorem dX11_runs_0 : decode cX11_runs 0 = .ok (.aload_n 0, 1) := by decide +kernel
theorem dX11_runs_1 : decode cX11_runs 1 = .ok (.invokevirtual 447, 3) := by decide +kernel
theorem dX11_runs_4 : decode cX11_runs 4 = .ok (.aload_n 0, 1) := by decide +kernel
theorem dX11_runs_5 : decode cX11_runs 5 = .ok (.getfield 411, 3) := by decide +kernel
theorem dX11_runs_8 : decode cX11_runs 8 = .ok (.iload_n 1, 1) := by decide +kernel
theorem dX11_runs_9 : decode cX11_runs 9 = .ok (.if_icmp .ge 43, 3) := by decide +kernel
theorem dX11_runs_12 : decode cX11_runs 12 = .ok (.aload_n 0, 1) := by decide +kernel
theorem dX11_runs_13 : decode cX11_runs 13 = .ok (.getfield 411, 3) := by decide +kernel
theorem dX11_runs_16 : decode cX11_runs 16 = .ok (.aload_n 0, 1) := by decide +kernel
theorem dX11_runs_17 : decode cX11_runs 17 = .ok (.getfield 7, 3) := by decide +kernel
theorem dX11_runs_20 : decode cX11_runs 20 = .ok (.aload_n 0, 1) := by decide +kernel
theorem dX11_runs_21 : decode cX11_runs 21 = .ok (.getfield 381, 3) := by decide +kernel
theorem dX11_runs_24 : decode cX11_runs 24 = .ok (.iaload, 1) := by decide +kernel
theorem dX11_runs_25 : decode cX11_runs 25 = .ok (.if_icmp .ge 27, 3) := by decide +kernel
theorem dX11_runs_28 : decode cX11_runs 28 = .ok (.aload_n 0, 1) := by decide +kernel
theorem dX11_runs_29 : decode cX11_runs 29 = .ok (.aload_n 0, 1) := by decide +kernel
theorem dX11_runs_30 : decode cX11_runs 30 = .ok (.getfield 411, 3) := by decide +kernel
theorem dX11_runs_33 : decode cX11_runs 33 = .ok (.invokevirtual 450, 3) := by decide +kernel
theorem dX11_runs_36 : decode cX11_runs 36 = .ok (.ifCond .eq 16, 3) := by decide +kernel
theorem dX11_runs_39 : decode cX11_runs 39 = .ok (.aload_n 0, 1) := by decide +kernel
theorem dX11_runs_40 : decode cX11_runs 40 = .ok (.dup, 1) := by decide +kernel
theorem dX11_runs_41 : decode cX11_runs 41 = .ok (.getfield 411, 3) := by decide +kernel
theorem dX11_runs_44 : decode cX11_runs 44 = .ok (.iconst 1, 1) := by decide +kernel
theorem dX11_runs_45 : decode cX11_runs 45 = .ok (.iadd, 1) := by decide +kernel
theorem dX11_runs_46 : decode cX11_runs 46 = .ok (.putfield 411, 3) := by decide +kernel
theorem dX11_runs_49 : decode cX11_runs 49 = .ok (.goto (-45), 3) := by decide +kernel
theorem dX11_runs_52 : decode cX11_runs 52 = .ok (.return_, 1) := by decide +kernel
theorem dX11_stop_0 : decode cX11_stop 0 = .ok (.aload_n 0, 1) := by decide +kernel
theorem dX11_stop_1 : decode cX11_stop 1 = .ok (.iload_n 1, 1) := by decide +kernel
theorem dX11_stop_2 : decode cX11_stop 2 = .ok (.invokevirtual 197, 3) := by decide +kernel
theorem dX11_stop_5 : decode cX11_stop 5 = .ok (.ifCond .eq 11, 3) := by decide +kernel
theorem dX11_stop_8 : decode cX11_stop 8 = .ok (.aload_n 0, 1) := by decide +kernel
theorem dX11_stop_9 : decode cX11_stop 9 = .ok (.iload_n 2, 1) := by decide +kernel
theorem dX11_stop_10 : decode cX11_stop 10 = .ok (.invokevirtual 384, 3) := by decide +kernel
theorem dX11_stop_13 : decode cX11_stop 13 = .ok (.ifCond .ne 5, 3) := by decide +kernel
theorem dX11_stop_16 : decode cX11_stop 16 = .ok (.iconst (-1), 1) := by decide +kernel
theorem dX11_stop_17 : decode cX11_stop 17 = .ok (.ireturn, 1) := by decide +kernel
theorem dX11_stop_18 : decode cX11_stop 18 = .ok (.aload_n 0, 1) := by decide +kernel
theorem dX11_stop_19 : decode cX11_stop 19 = .ok (.bipush 40, 2) := by decide +kernel
theorem dX11_stop_21 : decode cX11_stop 21 = .ok (.invokevirtual 453, 3) := by decide +kernel
theorem dX11_stop_24 : decode cX11_stop 24 = .ok (.aload_n 0, 1) := by decide +kernel
theorem dX11_stop_25 : decode cX11_stop 25 = .ok (.getfield 411, 3) := by decide +kernel
theorem dX11_stop_28 : decode cX11_stop 28 = .ok (.ireturn, 1) := by decide +kernel
theorem dX11_nowOf_0 : decode cX11_nowOf 0 = .ok (.iload_n 1, 1) := by decide +kernel
theorem dX11_nowOf_1 : decode cX11_nowOf 1 = .ok (.tableswitch 96 0 8 #[51, 56, 61, 66, 71, 76, 81, 86, 91], 51) := by decide +kernel
theorem dX11_nowOf_52 : decode cX11_nowOf 52 = .ok (.aload_n 0, 1) := by decide +kernel
theorem dX11_nowOf_53 : decode cX11_nowOf 53 = .ok (.getfield 396, 3) := by decide +kernel
theorem dX11_nowOf_56 : decode cX11_nowOf 56 = .ok (.ireturn, 1) := by decide +kernel
theorem dX11_nowOf_57 : decode cX11_nowOf 57 = .ok (.aload_n 0, 1) := by decide +kernel
theorem dX11_nowOf_58 : decode cX11_nowOf 58 = .ok (.invokevirtual 426, 3) := by decide +kernel
theorem dX11_nowOf_61 : decode cX11_nowOf 61 = .ok (.ireturn, 1) := by decide +kernel
theorem dX11_nowOf_62 : decode cX11_nowOf 62 = .ok (.aload_n 0, 1) := by decide +kernel
theorem dX11_nowOf_63 : decode cX11_nowOf 63 = .ok (.getfield 390, 3) := by decide +kernel
theorem dX11_nowOf_66 : decode cX11_nowOf 66 = .ok (.ireturn, 1) := by decide +kernel
theorem dX11_nowOf_67 : decode cX11_nowOf 67 = .ok (.aload_n 0, 1) := by decide +kernel
theorem dX11_nowOf_68 : decode cX11_nowOf 68 = .ok (.getfield 399, 3) := by decide +kernel
theorem dX11_nowOf_71 : decode cX11_nowOf 71 = .ok (.ireturn, 1) := by decide +kernel
theorem dX11_nowOf_72 : decode cX11_nowOf 72 = .ok (.aload_n 0, 1) := by decide +kernel
theorem dX11_nowOf_73 : decode cX11_nowOf 73 = .ok (.getfield 402, 3) := by decide +kernel
theorem dX11_nowOf_76 : decode cX11_nowOf 76 = .ok (.ireturn, 1) := by decide +kernel
theorem dX11_nowOf_77 : decode cX11_nowOf 77 = .ok (.aload_n 0, 1) := by decide +kernel
theorem dX11_nowOf_78 : decode cX11_nowOf 78 = .ok (.getfield 405, 3) := by decide +kernel
theorem dX11_nowOf_81 : decode cX11_nowOf 81 = .ok (.ireturn, 1) := by decide +kernel
theorem dX11_nowOf_82 : decode cX11_nowOf 82 = .ok (.aload_n 0, 1) := by decide +kernel
theorem dX11_nowOf_83 : decode cX11_nowOf 83 = .ok (.getfield 408, 3) := by decide +kernel
theorem dX11_nowOf_86 : decode cX11_nowOf 86 = .ok (.ireturn, 1) := by decide +kernel
theorem dX11_nowOf_87 : decode cX11_nowOf 87 = .ok (.aload_n 0, 1) := by decide +kernel
theorem dX11_nowOf_88 : decode cX11_nowOf 88 = .ok (.invokevirtual 429, 3) := by decide +kernel
theorem dX11_nowOf_91 : decode cX11_nowOf 91 = .ok (.ireturn, 1) := by decide +kernel
theorem dX11_nowOf_92 : decode cX11_nowOf 92 = .ok (.aload_n 0, 1) := by decide +kernel
theorem dX11_nowOf_93 : decode cX11_nowOf 93 = .ok (.getfield 393, 3) := by decide +kernel
theorem dX11_nowOf_96 : decode cX11_nowOf 96 = .ok (.ireturn, 1) := by decide +kernel
theorem dX11_nowOf_97 : decode cX11_nowOf 97 = .ok (.aload_n 0, 1) := by decide +kernel
theorem dX11_nowOf_98 : decode cX11_nowOf 98 = .ok (.iload_n 1, 1) := by decide +kernel
theorem dX11_nowOf_99 : decode cX11_nowOf 99 = .ok (.bipush 10, 2) := by decide +kernel
theorem dX11_nowOf_101 : decode cX11_nowOf 101 = .ok (.isub, 1) := by decide +kernel
theorem dX11_nowOf_102 : decode cX11_nowOf 102 = .ok (.invokevirtual 212, 3) := by decide +kernel
theorem dX11_nowOf_105 : decode cX11_nowOf 105 = .ok (.ifCond .eq 15, 3) := by decide +kernel
theorem dX11_nowOf_108 : decode cX11_nowOf 108 = .ok (.aload_n 0, 1) := by decide +kernel
theorem dX11_nowOf_109 : decode cX11_nowOf 109 = .ok (.getfield 56, 3) := by decide +kernel
theorem dX11_nowOf_112 : decode cX11_nowOf 112 = .ok (.iload_n 1, 1) := by decide +kernel
theorem dX11_nowOf_113 : decode cX11_nowOf 113 = .ok (.bipush 10, 2) := by decide +kernel
theorem dX11_nowOf_115 : decode cX11_nowOf 115 = .ok (.isub, 1) := by decide +kernel
theorem dX11_nowOf_116 : decode cX11_nowOf 116 = .ok (.iaload, 1) := by decide +kernel
theorem dX11_nowOf_117 : decode cX11_nowOf 117 = .ok (.goto 5, 3) := by decide +kernel
theorem dX11_nowOf_120 : decode cX11_nowOf 120 = .ok (.bipush (-2), 2) := by decide +kernel
theorem dX11_nowOf_122 : decode cX11_nowOf 122 = .ok (.ireturn, 1) := by decide +kernel
theorem dX11_state_0 : decode cX11_state 0 = .ok (.aload_n 0, 1) := by decide +kernel
theorem dX11_state_1 : decode cX11_state 1 = .ok (.iload_n 1, 1) := by decide +kernel
theorem dX11_state_2 : decode cX11_state 2 = .ok (.invokevirtual 197, 3) := by decide +kernel
theorem dX11_state_5 : decode cX11_state 5 = .ok (.ifCond .eq 15, 3) := by decide +kernel
theorem dX11_state_8 : decode cX11_state 8 = .ok (.aload_n 0, 1) := by decide +kernel
theorem dX11_state_9 : decode cX11_state 9 = .ok (.iload_n 2, 1) := by decide +kernel
theorem dX11_state_10 : decode cX11_state 10 = .ok (.invokevirtual 384, 3) := by decide +kernel
theorem dX11_state_13 : decode cX11_state 13 = .ok (.ifCond .eq 7, 3) := by decide +kernel
theorem dX11_state_16 : decode cX11_state 16 = .ok (.iload_n 3, 1) := by decide +kernel
theorem dX11_state_17 : decode cX11_state 17 = .ok (.ifCond .ge 6, 3) := by decide +kernel
theorem dX11_state_20 : decode cX11_state 20 = .ok (.bipush (-2), 2) := by decide +kernel
theorem dX11_state_22 : decode cX11_state 22 = .ok (.ireturn, 1) := by decide +kernel
theorem dX11_state_23 : decode cX11_state 23 = .ok (.aload_n 0, 1) := by decide +kernel
theorem dX11_state_24 : decode cX11_state 24 = .ok (.iload_n 3, 1) := by decide +kernel
theorem dX11_state_25 : decode cX11_state 25 = .ok (.invokevirtual 453, 3) := by decide +kernel
theorem dX11_state_28 : decode cX11_state 28 = .ok (.aload_n 0, 1) := by decide +kernel
theorem dX11_state_29 : decode cX11_state 29 = .ok (.getfield 411, 3) := by decide +kernel
theorem dX11_state_32 : decode cX11_state 32 = .ok (.iload_n 3, 1) := by decide +kernel
theorem dX11_state_33 : decode cX11_state 33 = .ok (.if_icmp .ne 12, 3) := by decide +kernel
theorem dX11_state_36 : decode cX11_state 36 = .ok (.aload_n 0, 1) := by decide +kernel
theorem dX11_state_37 : decode cX11_state 37 = .ok (.iload 4, 2) := by decide +kernel
theorem dX11_state_39 : decode cX11_state 39 = .ok (.invokevirtual 456, 3) := by decide +kernel
theorem dX11_state_42 : decode cX11_state 42 = .ok (.goto 5, 3) := by decide +kernel
theorem dX11_state_45 : decode cX11_state 45 = .ok (.bipush (-2), 2) := by decide +kernel
theorem dX11_state_47 : decode cX11_state 47 = .ok (.ireturn, 1) := by decide +kernel
theorem dX11_after_0 : decode cX11_after 0 = .ok (.aload_n 0, 1) := by decide +kernel
theorem dX11_after_1 : decode cX11_after 1 = .ok (.iload_n 1, 1) := by decide +kernel
theorem dX11_after_2 : decode cX11_after 2 = .ok (.invokevirtual 197, 3) := by decide +kernel
theorem dX11_after_5 : decode cX11_after 5 = .ok (.ifCond .eq 20, 3) := by decide +kernel
theorem dX11_after_8 : decode cX11_after 8 = .ok (.aload_n 0, 1) := by decide +kernel
theorem dX11_after_9 : decode cX11_after 9 = .ok (.iload_n 2, 1) := by decide +kernel
theorem dX11_after_10 : decode cX11_after 10 = .ok (.invokevirtual 384, 3) := by decide +kernel
theorem dX11_after_13 : decode cX11_after 13 = .ok (.ifCond .eq 12, 3) := by decide +kernel
theorem dX11_after_16 : decode cX11_after 16 = .ok (.iload_n 3, 1) := by decide +kernel
theorem dX11_after_17 : decode cX11_after 17 = .ok (.iconst 0, 1) := by decide +kernel
theorem dX11_after_18 : decode cX11_after 18 = .ok (.iconst 3, 1) := by decide +kernel
theorem dX11_after_19 : decode cX11_after 19 = .ok (.invokestatic 123, 3) := by decide +kernel
theorem dX11_after_22 : decode cX11_after 22 = .ok (.ifCond .ne 6, 3) := by decide +kernel
theorem dX11_after_25 : decode cX11_after 25 = .ok (.bipush (-2), 2) := by decide +kernel
theorem dX11_after_27 : decode cX11_after 27 = .ok (.ireturn, 1) := by decide +kernel
theorem dX11_after_28 : decode cX11_after 28 = .ok (.aload_n 0, 1) := by decide +kernel
theorem dX11_after_29 : decode cX11_after 29 = .ok (.invokevirtual 447, 3) := by decide +kernel
theorem dX11_after_32 : decode cX11_after 32 = .ok (.iconst (-1), 1) := by decide +kernel
theorem dX11_after_33 : decode cX11_after 33 = .ok (.istore 4, 2) := by decide +kernel
theorem dX11_after_35 : decode cX11_after 35 = .ok (.iconst 0, 1) := by decide +kernel
theorem dX11_after_36 : decode cX11_after 36 = .ok (.istore 5, 2) := by decide +kernel
theorem dX11_after_38 : decode cX11_after 38 = .ok (.iload 5, 2) := by decide +kernel
theorem dX11_after_40 : decode cX11_after 40 = .ok (.aload_n 0, 1) := by decide +kernel
theorem dX11_after_41 : decode cX11_after 41 = .ok (.getfield 7, 3) := by decide +kernel
theorem dX11_after_44 : decode cX11_after 44 = .ok (.aload_n 0, 1) := by decide +kernel
theorem dX11_after_45 : decode cX11_after 45 = .ok (.getfield 381, 3) := by decide +kernel
theorem dX11_after_48 : decode cX11_after 48 = .ok (.iaload, 1) := by decide +kernel
theorem dX11_after_49 : decode cX11_after 49 = .ok (.if_icmp .ge 35, 3) := by decide +kernel
theorem dX11_after_52 : decode cX11_after 52 = .ok (.aload_n 0, 1) := by decide +kernel
theorem dX11_after_53 : decode cX11_after 53 = .ok (.iload 5, 2) := by decide +kernel
theorem dX11_after_55 : decode cX11_after 55 = .ok (.invokevirtual 450, 3) := by decide +kernel
theorem dX11_after_58 : decode cX11_after 58 = .ok (.ifCond .eq 26, 3) := by decide +kernel
theorem dX11_after_61 : decode cX11_after 61 = .ok (.iload 4, 2) := by decide +kernel
theorem dX11_after_63 : decode cX11_after 63 = .ok (.iconst (-1), 1) := by decide +kernel
theorem dX11_after_64 : decode cX11_after 64 = .ok (.if_icmp .ne 14, 3) := by decide +kernel
theorem dX11_after_67 : decode cX11_after 67 = .ok (.aload_n 0, 1) := by decide +kernel
theorem dX11_after_68 : decode cX11_after 68 = .ok (.getfield 405, 3) := by decide +kernel
theorem dX11_after_71 : decode cX11_after 71 = .ok (.ifCond .le 7, 3) := by decide +kernel
theorem dX11_after_74 : decode cX11_after 74 = .ok (.iload 5, 2) := by decide +kernel
theorem dX11_after_76 : decode cX11_after 76 = .ok (.istore 4, 2) := by decide +kernel
theorem dX11_after_78 : decode cX11_after 78 = .ok (.iinc 5 1, 3) := by decide +kernel
theorem dX11_after_81 : decode cX11_after 81 = .ok (.goto (-43), 3) := by decide +kernel
theorem dX11_after_84 : decode cX11_after 84 = .ok (.iconst 0, 1) := by decide +kernel
theorem dX11_after_85 : decode cX11_after 85 = .ok (.istore 5, 2) := by decide +kernel
theorem dX11_after_87 : decode cX11_after 87 = .ok (.iconst 1, 1) := by decide +kernel
theorem dX11_after_88 : decode cX11_after 88 = .ok (.istore 6, 2) := by decide +kernel
theorem dX11_after_90 : decode cX11_after 90 = .ok (.iload 6, 2) := by decide +kernel
theorem dX11_after_92 : decode cX11_after 92 = .ok (.iconst 5, 1) := by decide +kernel
theorem dX11_after_93 : decode cX11_after 93 = .ok (.if_icmp .ge 35, 3) := by decide +kernel
theorem dX11_after_96 : decode cX11_after 96 = .ok (.aload_n 0, 1) := by decide +kernel
theorem dX11_after_97 : decode cX11_after 97 = .ok (.getfield 59, 3) := by decide +kernel
theorem dX11_after_100 : decode cX11_after 100 = .ok (.iload 6, 2) := by decide +kernel
theorem dX11_after_102 : decode cX11_after 102 = .ok (.iaload, 1) := by decide +kernel
theorem dX11_after_103 : decode cX11_after 103 = .ok (.aload_n 0, 1) := by decide +kernel
theorem dX11_after_104 : decode cX11_after 104 = .ok (.getfield 59, 3) := by decide +kernel
theorem dX11_after_107 : decode cX11_after 107 = .ok (.iload 5, 2) := by decide +kernel
theorem dX11_after_109 : decode cX11_after 109 = .ok (.iaload, 1) := by decide +kernel
theorem dX11_after_110 : decode cX11_after 110 = .ok (.if_icmp .le 8, 3) := by decide +kernel
theorem dX11_after_113 : decode cX11_after 113 = .ok (.iload 6, 2) := by decide +kernel
theorem dX11_after_115 : decode cX11_after 115 = .ok (.goto 5, 3) := by decide +kernel
theorem dX11_after_118 : decode cX11_after 118 = .ok (.iload 5, 2) := by decide +kernel
theorem dX11_after_120 : decode cX11_after 120 = .ok (.istore 5, 2) := by decide +kernel
theorem dX11_after_122 : decode cX11_after 122 = .ok (.iinc 6 1, 3) := by decide +kernel
theorem dX11_after_125 : decode cX11_after 125 = .ok (.goto (-35), 3) := by decide +kernel
theorem dX11_after_128 : decode cX11_after 128 = .ok (.iload_n 3, 1) := by decide +kernel
theorem dX11_after_129 : decode cX11_after 129 = .ok (.ifCond .ne 8, 3) := by decide +kernel
theorem dX11_after_132 : decode cX11_after 132 = .ok (.iload 4, 2) := by decide +kernel
theorem dX11_after_134 : decode cX11_after 134 = .ok (.goto 43, 3) := by decide +kernel
theorem dX11_after_137 : decode cX11_after 137 = .ok (.iload_n 3, 1) := by decide +kernel
theorem dX11_after_138 : decode cX11_after 138 = .ok (.iconst 1, 1) := by decide +kernel
theorem dX11_after_139 : decode cX11_after 139 = .ok (.if_icmp .ne 22, 3) := by decide +kernel
theorem dX11_after_142 : decode cX11_after 142 = .ok (.aload_n 0, 1) := by decide +kernel
theorem dX11_after_143 : decode cX11_after 143 = .ok (.getfield 59, 3) := by decide +kernel
theorem dX11_after_146 : decode cX11_after 146 = .ok (.iload 5, 2) := by decide +kernel
theorem dX11_after_148 : decode cX11_after 148 = .ok (.iaload, 1) := by decide +kernel
theorem dX11_after_149 : decode cX11_after 149 = .ok (.ifCond .ne 7, 3) := by decide +kernel
theorem dX11_after_152 : decode cX11_after 152 = .ok (.iconst (-1), 1) := by decide +kernel
theorem dX11_after_153 : decode cX11_after 153 = .ok (.goto 24, 3) := by decide +kernel
theorem dX11_after_156 : decode cX11_after 156 = .ok (.iload 5, 2) := by decide +kernel
theorem dX11_after_158 : decode cX11_after 158 = .ok (.goto 19, 3) := by decide +kernel
theorem dX11_after_161 : decode cX11_after 161 = .ok (.iload_n 3, 1) := by decide +kernel
theorem dX11_after_162 : decode cX11_after 162 = .ok (.iconst 2, 1) := by decide +kernel
theorem dX11_after_163 : decode cX11_after 163 = .ok (.if_icmp .ne 10, 3) := by decide +kernel
theorem dX11_after_166 : decode cX11_after 166 = .ok (.aload_n 0, 1) := by decide +kernel
theorem dX11_after_167 : decode cX11_after 167 = .ok (.getfield 414, 3) := by decide +kernel
theorem dX11_after_170 : decode cX11_after 170 = .ok (.goto 7, 3) := by decide +kernel
theorem dX11_after_173 : decode cX11_after 173 = .ok (.aload_n 0, 1) := by decide +kernel
theorem dX11_after_174 : decode cX11_after 174 = .ok (.getfield 420, 3) := by decide +kernel
theorem dX11_after_177 : decode cX11_after 177 = .ok (.ireturn, 1) := by decide +kernel
theorem dX11_areMornings_0 : decode cX11_areMornings 0 = .ok (.aload_n 0, 1) := by decide +kernel
theorem dX11_areMornings_1 : decode cX11_areMornings 1 = .ok (.iconst 2, 1) := by decide +kernel
theorem dX11_areMornings_2 : decode cX11_areMornings 2 = .ok (.iload_n 1, 1) := by decide +kernel
theorem dX11_areMornings_3 : decode cX11_areMornings 3 = .ok (.invokevirtual 163, 3) := by decide +kernel
theorem dX11_areMornings_6 : decode cX11_areMornings 6 = .ok (.ifCond .ne 5, 3) := by decide +kernel
theorem dX11_areMornings_9 : decode cX11_areMornings 9 = .ok (.iconst 0, 1) := by decide +kernel
theorem dX11_areMornings_10 : decode cX11_areMornings 10 = .ok (.ireturn, 1) := by decide +kernel
theorem dX11_areMornings_11 : decode cX11_areMornings 11 = .ok (.aload_n 0, 1) := by decide +kernel
theorem dX11_areMornings_12 : decode cX11_areMornings 12 = .ok (.iconst 2, 1) := by decide +kernel
theorem dX11_areMornings_13 : decode cX11_areMornings 13 = .ok (.iload_n 1, 1) := by decide +kernel
theorem dX11_areMornings_14 : decode cX11_areMornings 14 = .ok (.invokestatic 179, 3) := by decide +kernel
theorem dX11_areMornings_17 : decode cX11_areMornings 17 = .ok (.putfield 459, 3) := by decide +kernel
theorem dX11_areMornings_20 : decode cX11_areMornings 20 = .ok (.iconst 1, 1) := by decide +kernel
theorem dX11_areMornings_21 : decode cX11_areMornings 21 = .ok (.ireturn, 1) := by decide +kernel
theorem dX11_fact_0 : decode cX11_fact 0 = .ok (.aload_n 0, 1) := by decide +kernel
theorem dX11_fact_1 : decode cX11_fact 1 = .ok (.iload_n 1, 1) := by decide +kernel
theorem dX11_fact_2 : decode cX11_fact 2 = .ok (.invokevirtual 462, 3) := by decide +kernel
theorem dX11_fact_5 : decode cX11_fact 5 = .ok (.ifCond .ne 6, 3) := by decide +kernel
theorem dX11_fact_8 : decode cX11_fact 8 = .ok (.bipush (-2), 2) := by decide +kernel
theorem dX11_fact_10 : decode cX11_fact 10 = .ok (.ireturn, 1) := by decide +kernel
theorem dX11_fact_11 : decode cX11_fact 11 = .ok (.iload_n 2, 1) := by decide +kernel
theorem dX11_fact_12 : decode cX11_fact 12 = .ok (.iconst (-1), 1) := by decide +kernel
theorem dX11_fact_13 : decode cX11_fact 13 = .ok (.if_icmp .ne 22, 3) := by decide +kernel
theorem dX11_fact_16 : decode cX11_fact 16 = .ok (.iload_n 3, 1) := by decide +kernel
theorem dX11_fact_17 : decode cX11_fact 17 = .ok (.ifCond .ne 15, 3) := by decide +kernel
theorem dX11_fact_20 : decode cX11_fact 20 = .ok (.aload_n 0, 1) := by decide +kernel
theorem dX11_fact_21 : decode cX11_fact 21 = .ok (.getfield 7, 3) := by decide +kernel
theorem dX11_fact_24 : decode cX11_fact 24 = .ok (.aload_n 0, 1) := by decide +kernel
theorem dX11_fact_25 : decode cX11_fact 25 = .ok (.getfield 459, 3) := by decide +kernel
theorem dX11_fact_28 : decode cX11_fact 28 = .ok (.iaload, 1) := by decide +kernel
theorem dX11_fact_29 : decode cX11_fact 29 = .ok (.goto 5, 3) := by decide +kernel
theorem dX11_fact_32 : decode cX11_fact 32 = .ok (.bipush (-2), 2) := by decide +kernel
theorem dX11_fact_34 : decode cX11_fact 34 = .ok (.ireturn, 1) := by decide +kernel
theorem dX11_fact_35 : decode cX11_fact 35 = .ok (.iload_n 2, 1) := by decide +kernel
theorem dX11_fact_36 : decode cX11_fact 36 = .ok (.iconst 0, 1) := by decide +kernel
theorem dX11_fact_37 : decode cX11_fact 37 = .ok (.aload_n 0, 1) := by decide +kernel
theorem dX11_fact_38 : decode cX11_fact 38 = .ok (.getfield 7, 3) := by decide +kernel
theorem dX11_fact_41 : decode cX11_fact 41 = .ok (.aload_n 0, 1) := by decide +kernel
theorem dX11_fact_42 : decode cX11_fact 42 = .ok (.getfield 459, 3) := by decide +kernel
theorem dX11_fact_45 : decode cX11_fact 45 = .ok (.iaload, 1) := by decide +kernel
theorem dX11_fact_46 : decode cX11_fact 46 = .ok (.iconst 1, 1) := by decide +kernel
theorem dX11_fact_47 : decode cX11_fact 47 = .ok (.isub, 1) := by decide +kernel
theorem dX11_fact_48 : decode cX11_fact 48 = .ok (.invokestatic 123, 3) := by decide +kernel
theorem dX11_fact_51 : decode cX11_fact 51 = .ok (.ifCond .eq 32, 3) := by decide +kernel
theorem dX11_fact_54 : decode cX11_fact 54 = .ok (.iload_n 3, 1) := by decide +kernel
theorem dX11_fact_55 : decode cX11_fact 55 = .ok (.iconst 0, 1) := by decide +kernel
theorem dX11_fact_56 : decode cX11_fact 56 = .ok (.iconst 1, 1) := by decide +kernel
theorem dX11_fact_57 : decode cX11_fact 57 = .ok (.invokestatic 123, 3) := by decide +kernel
theorem dX11_fact_60 : decode cX11_fact 60 = .ok (.ifCond .eq 23, 3) := by decide +kernel
theorem dX11_fact_63 : decode cX11_fact 63 = .ok (.aload_n 0, 1) := by decide +kernel
theorem dX11_fact_64 : decode cX11_fact 64 = .ok (.getfield 7, 3) := by decide +kernel
theorem dX11_fact_67 : decode cX11_fact 67 = .ok (.aload_n 0, 1) := by decide +kernel
theorem dX11_fact_68 : decode cX11_fact 68 = .ok (.getfield 459, 3) := by decide +kernel
theorem dX11_fact_71 : decode cX11_fact 71 = .ok (.iconst 1, 1) := by decide +kernel
theorem dX11_fact_72 : decode cX11_fact 72 = .ok (.iadd, 1) := by decide +kernel
theorem dX11_fact_73 : decode cX11_fact 73 = .ok (.iconst 2, 1) := by decide +kernel
theorem dX11_fact_74 : decode cX11_fact 74 = .ok (.iload_n 2, 1) := by decide +kernel
theorem dX11_fact_75 : decode cX11_fact 75 = .ok (.imul, 1) := by decide +kernel
theorem dX11_fact_76 : decode cX11_fact 76 = .ok (.iadd, 1) := by decide +kernel
theorem dX11_fact_77 : decode cX11_fact 77 = .ok (.iload_n 3, 1) := by decide +kernel
theorem dX11_fact_78 : decode cX11_fact 78 = .ok (.iadd, 1) := by decide +kernel
theorem dX11_fact_79 : decode cX11_fact 79 = .ok (.iaload, 1) := by decide +kernel
theorem dX11_fact_80 : decode cX11_fact 80 = .ok (.goto 5, 3) := by decide +kernel
theorem dX11_fact_83 : decode cX11_fact 83 = .ok (.bipush (-2), 2) := by decide +kernel
theorem dX11_fact_85 : decode cX11_fact 85 = .ok (.ireturn, 1) := by decide +kernel
theorem dX11_areDreams_0 : decode cX11_areDreams 0 = .ok (.aload_n 0, 1) := by decide +kernel
theorem dX11_areDreams_1 : decode cX11_areDreams 1 = .ok (.aload_n 0, 1) := by decide +kernel
theorem dX11_areDreams_2 : decode cX11_areDreams 2 = .ok (.getfield 188, 3) := by decide +kernel
theorem dX11_areDreams_5 : decode cX11_areDreams 5 = .ok (.aload_n 0, 1) := by decide +kernel
theorem dX11_areDreams_6 : decode cX11_areDreams 6 = .ok (.invokevirtual 245, 3) := by decide +kernel
theorem dX11_areDreams_9 : decode cX11_areDreams 9 = .ok (.iconst 0, 1) := by decide +kernel
theorem dX11_areDreams_10 : decode cX11_areDreams 10 = .ok (.invokevirtual 249, 3) := by decide +kernel
theorem dX11_areDreams_13 : decode cX11_areDreams 13 = .ok (.istore_n 1, 1) := by decide +kernel
theorem dX11_areDreams_14 : decode cX11_areDreams 14 = .ok (.iconst 0, 1) := by decide +kernel
theorem dX11_areDreams_15 : decode cX11_areDreams 15 = .ok (.istore_n 2, 1) := by decide +kernel
theorem dX11_areDreams_16 : decode cX11_areDreams 16 = .ok (.iload_n 2, 1) := by decide +kernel
theorem dX11_areDreams_17 : decode cX11_areDreams 17 = .ok (.aload_n 0, 1) := by decide +kernel
theorem dX11_areDreams_18 : decode cX11_areDreams 18 = .ok (.getfield 7, 3) := by decide +kernel
theorem dX11_areDreams_21 : decode cX11_areDreams 21 = .ok (.aload_n 0, 1) := by decide +kernel
theorem dX11_areDreams_22 : decode cX11_areDreams 22 = .ok (.getfield 459, 3) := by decide +kernel
theorem dX11_areDreams_25 : decode cX11_areDreams 25 = .ok (.iaload, 1) := by decide +kernel
theorem dX11_areDreams_26 : decode cX11_areDreams 26 = .ok (.if_icmp .ge 41, 3) := by decide +kernel
theorem dX11_areDreams_29 : decode cX11_areDreams 29 = .ok (.iload_n 1, 1) := by decide +kernel
theorem dX11_areDreams_30 : decode cX11_areDreams 30 = .ok (.ifCond .eq 29, 3) := by decide +kernel
theorem dX11_areDreams_33 : decode cX11_areDreams 33 = .ok (.aload_n 0, 1) := by decide +kernel
theorem dX11_areDreams_34 : decode cX11_areDreams 34 = .ok (.getfield 7, 3) := by decide +kernel
theorem dX11_areDreams_37 : decode cX11_areDreams 37 = .ok (.aload_n 0, 1) := by decide +kernel
theorem dX11_areDreams_38 : decode cX11_areDreams 38 = .ok (.getfield 459, 3) := by decide +kernel
theorem dX11_areDreams_41 : decode cX11_areDreams 41 = .ok (.iconst 2, 1) := by decide +kernel
theorem dX11_areDreams_42 : decode cX11_areDreams 42 = .ok (.iadd, 1) := by decide +kernel
theorem dX11_areDreams_43 : decode cX11_areDreams 43 = .ok (.iconst 2, 1) := by decide +kernel
theorem dX11_areDreams_44 : decode cX11_areDreams 44 = .ok (.iload_n 2, 1) := by decide +kernel
theorem dX11_areDreams_45 : decode cX11_areDreams 45 = .ok (.imul, 1) := by decide +kernel
theorem dX11_areDreams_46 : decode cX11_areDreams 46 = .ok (.iadd, 1) := by decide +kernel
theorem dX11_areDreams_47 : decode cX11_areDreams 47 = .ok (.iaload, 1) := by decide +kernel
theorem dX11_areDreams_48 : decode cX11_areDreams 48 = .ok (.aload_n 0, 1) := by decide +kernel
theorem dX11_areDreams_49 : decode cX11_areDreams 49 = .ok (.getfield 185, 3) := by decide +kernel
theorem dX11_areDreams_52 : decode cX11_areDreams 52 = .ok (.if_icmp .ge 7, 3) := by decide +kernel
theorem dX11_areDreams_55 : decode cX11_areDreams 55 = .ok (.iconst 1, 1) := by decide +kernel
theorem dX11_areDreams_56 : decode cX11_areDreams 56 = .ok (.goto 4, 3) := by decide +kernel
theorem dX11_areDreams_59 : decode cX11_areDreams 59 = .ok (.iconst 0, 1) := by decide +kernel
theorem dX11_areDreams_60 : decode cX11_areDreams 60 = .ok (.istore_n 1, 1) := by decide +kernel
theorem dX11_areDreams_61 : decode cX11_areDreams 61 = .ok (.iinc 2 1, 3) := by decide +kernel
theorem dX11_areDreams_64 : decode cX11_areDreams 64 = .ok (.goto (-48), 3) := by decide +kernel
theorem dX11_areDreams_67 : decode cX11_areDreams 67 = .ok (.iconst 0, 1) := by decide +kernel
theorem dX11_areDreams_68 : decode cX11_areDreams 68 = .ok (.istore_n 2, 1) := by decide +kernel
theorem dX11_areDreams_69 : decode cX11_areDreams 69 = .ok (.iload_n 2, 1) := by decide +kernel
theorem dX11_areDreams_70 : decode cX11_areDreams 70 = .ok (.bipush 6, 2) := by decide +kernel
theorem dX11_areDreams_72 : decode cX11_areDreams 72 = .ok (.if_icmp .ge 36, 3) := by decide +kernel
theorem dX11_areDreams_75 : decode cX11_areDreams 75 = .ok (.iload_n 1, 1) := by decide +kernel
theorem dX11_areDreams_76 : decode cX11_areDreams 76 = .ok (.ifCond .eq 32, 3) := by decide +kernel
theorem dX11_areDreams_79 : decode cX11_areDreams 79 = .ok (.aload_n 0, 1) := by decide +kernel
theorem dX11_areDreams_80 : decode cX11_areDreams 80 = .ok (.getfield 65, 3) := by decide +kernel
theorem dX11_areDreams_83 : decode cX11_areDreams 83 = .ok (.iload_n 2, 1) := by decide +kernel
theorem dX11_areDreams_84 : decode cX11_areDreams 84 = .ok (.iload_n 2, 1) := by decide +kernel
theorem dX11_areDreams_85 : decode cX11_areDreams 85 = .ok (.aload_n 0, 1) := by decide +kernel
theorem dX11_areDreams_86 : decode cX11_areDreams 86 = .ok (.getfield 191, 3) := by decide +kernel
theorem dX11_areDreams_89 : decode cX11_areDreams 89 = .ok (.if_icmp .ge 11, 3) := by decide +kernel
theorem dX11_areDreams_92 : decode cX11_areDreams 92 = .ok (.aload_n 0, 1) := by decide +kernel
theorem dX11_areDreams_93 : decode cX11_areDreams 93 = .ok (.iload_n 2, 1) := by decide +kernel
theorem dX11_areDreams_94 : decode cX11_areDreams 94 = .ok (.invokevirtual 268, 3) := by decide +kernel
theorem dX11_areDreams_97 : decode cX11_areDreams 97 = .ok (.goto 4, 3) := by decide +kernel
theorem dX11_areDreams_100 : decode cX11_areDreams 100 = .ok (.iconst 0, 1) := by decide +kernel
theorem dX11_areDreams_101 : decode cX11_areDreams 101 = .ok (.iastore, 1) := by decide +kernel
theorem dX11_areDreams_102 : decode cX11_areDreams 102 = .ok (.iinc 2 1, 3) := by decide +kernel
theorem dX11_areDreams_105 : decode cX11_areDreams 105 = .ok (.goto (-36), 3) := by decide +kernel
theorem dX11_areDreams_108 : decode cX11_areDreams 108 = .ok (.iload_n 1, 1) := by decide +kernel
theorem dX11_areDreams_109 : decode cX11_areDreams 109 = .ok (.ireturn, 1) := by decide +kernel
theorem dX11_isSo_0 : decode cX11_isSo 0 = .ok (.iload_n 1, 1) := by decide +kernel
theorem dX11_isSo_1 : decode cX11_isSo 1 = .ok (.iconst 5, 1) := by decide +kernel
theorem dX11_isSo_2 : decode cX11_isSo 2 = .ok (.if_icmp .eq 11, 3) := by decide +kernel
theorem dX11_isSo_5 : decode cX11_isSo 5 = .ok (.iload_n 1, 1) := by decide +kernel
theorem dX11_isSo_6 : decode cX11_isSo 6 = .ok (.aload_n 0, 1) := by decide +kernel
theorem dX11_isSo_7 : decode cX11_isSo 7 = .ok (.getfield 191, 3) := by decide +kernel
theorem dX11_isSo_10 : decode cX11_isSo 10 = .ok (.if_icmp .ge 7, 3) := by decide +kernel
theorem dX11_isSo_13 : decode cX11_isSo 13 = .ok (.iconst 1, 1) := by decide +kernel
theorem dX11_isSo_14 : decode cX11_isSo 14 = .ok (.goto 4, 3) := by decide +kernel
theorem dX11_isSo_17 : decode cX11_isSo 17 = .ok (.iconst 0, 1) := by decide +kernel
theorem dX11_isSo_18 : decode cX11_isSo 18 = .ok (.istore_n 2, 1) := by decide +kernel
theorem dX11_isSo_19 : decode cX11_isSo 19 = .ok (.iconst 0, 1) := by decide +kernel
theorem dX11_isSo_20 : decode cX11_isSo 20 = .ok (.istore_n 3, 1) := by decide +kernel
theorem dX11_isSo_21 : decode cX11_isSo 21 = .ok (.iload_n 3, 1) := by decide +kernel
theorem dX11_isSo_22 : decode cX11_isSo 22 = .ok (.aload_n 0, 1) := by decide +kernel
theorem dX11_isSo_23 : decode cX11_isSo 23 = .ok (.getfield 7, 3) := by decide +kernel
theorem dX11_isSo_26 : decode cX11_isSo 26 = .ok (.aload_n 0, 1) := by decide +kernel
theorem dX11_isSo_27 : decode cX11_isSo 27 = .ok (.getfield 459, 3) := by decide +kernel
theorem dX11_isSo_30 : decode cX11_isSo 30 = .ok (.iaload, 1) := by decide +kernel
theorem dX11_isSo_31 : decode cX11_isSo 31 = .ok (.if_icmp .ge 63, 3) := by decide +kernel
theorem dX11_isSo_34 : decode cX11_isSo 34 = .ok (.iload_n 2, 1) := by decide +kernel
theorem dX11_isSo_35 : decode cX11_isSo 35 = .ok (.ifCond .eq 51, 3) := by decide +kernel
theorem dX11_isSo_38 : decode cX11_isSo 38 = .ok (.aload_n 0, 1) := by decide +kernel
theorem dX11_isSo_39 : decode cX11_isSo 39 = .ok (.getfield 65, 3) := by decide +kernel
theorem dX11_isSo_42 : decode cX11_isSo 42 = .ok (.iload_n 1, 1) := by decide +kernel
theorem dX11_isSo_43 : decode cX11_isSo 43 = .ok (.iaload, 1) := by decide +kernel
theorem dX11_isSo_44 : decode cX11_isSo 44 = .ok (.aload_n 0, 1) := by decide +kernel
theorem dX11_isSo_45 : decode cX11_isSo 45 = .ok (.getfield 7, 3) := by decide +kernel
theorem dX11_isSo_48 : decode cX11_isSo 48 = .ok (.aload_n 0, 1) := by decide +kernel
theorem dX11_isSo_49 : decode cX11_isSo 49 = .ok (.getfield 459, 3) := by decide +kernel
theorem dX11_isSo_52 : decode cX11_isSo 52 = .ok (.iconst 2, 1) := by decide +kernel
theorem dX11_isSo_53 : decode cX11_isSo 53 = .ok (.iadd, 1) := by decide +kernel
theorem dX11_isSo_54 : decode cX11_isSo 54 = .ok (.iconst 2, 1) := by decide +kernel
theorem dX11_isSo_55 : decode cX11_isSo 55 = .ok (.iload_n 3, 1) := by decide +kernel
theorem dX11_isSo_56 : decode cX11_isSo 56 = .ok (.imul, 1) := by decide +kernel
theorem dX11_isSo_57 : decode cX11_isSo 57 = .ok (.iadd, 1) := by decide +kernel
theorem dX11_isSo_58 : decode cX11_isSo 58 = .ok (.iaload, 1) := by decide +kernel
theorem dX11_isSo_59 : decode cX11_isSo 59 = .ok (.ishr, 1) := by decide +kernel
theorem dX11_isSo_60 : decode cX11_isSo 60 = .ok (.iconst 1, 1) := by decide +kernel
theorem dX11_isSo_61 : decode cX11_isSo 61 = .ok (.iand, 1) := by decide +kernel
theorem dX11_isSo_62 : decode cX11_isSo 62 = .ok (.iconst 1, 1) := by decide +kernel
theorem dX11_isSo_63 : decode cX11_isSo 63 = .ok (.aload_n 0, 1) := by decide +kernel
theorem dX11_isSo_64 : decode cX11_isSo 64 = .ok (.getfield 7, 3) := by decide +kernel
theorem dX11_isSo_67 : decode cX11_isSo 67 = .ok (.aload_n 0, 1) := by decide +kernel
theorem dX11_isSo_68 : decode cX11_isSo 68 = .ok (.getfield 459, 3) := by decide +kernel
theorem dX11_isSo_71 : decode cX11_isSo 71 = .ok (.iconst 1, 1) := by decide +kernel
theorem dX11_isSo_72 : decode cX11_isSo 72 = .ok (.iadd, 1) := by decide +kernel
theorem dX11_isSo_73 : decode cX11_isSo 73 = .ok (.iconst 2, 1) := by decide +kernel
theorem dX11_isSo_74 : decode cX11_isSo 74 = .ok (.iload_n 3, 1) := by decide +kernel
theorem dX11_isSo_75 : decode cX11_isSo 75 = .ok (.imul, 1) := by decide +kernel
theorem dX11_isSo_76 : decode cX11_isSo 76 = .ok (.iadd, 1) := by decide +kernel
theorem dX11_isSo_77 : decode cX11_isSo 77 = .ok (.iaload, 1) := by decide +kernel
theorem dX11_isSo_78 : decode cX11_isSo 78 = .ok (.isub, 1) := by decide +kernel
theorem dX11_isSo_79 : decode cX11_isSo 79 = .ok (.if_icmp .ne 7, 3) := by decide +kernel
theorem dX11_isSo_82 : decode cX11_isSo 82 = .ok (.iconst 1, 1) := by decide +kernel
theorem dX11_isSo_83 : decode cX11_isSo 83 = .ok (.goto 4, 3) := by decide +kernel
theorem dX11_isSo_86 : decode cX11_isSo 86 = .ok (.iconst 0, 1) := by decide +kernel
theorem dX11_isSo_87 : decode cX11_isSo 87 = .ok (.istore_n 2, 1) := by decide +kernel
theorem dX11_isSo_88 : decode cX11_isSo 88 = .ok (.iinc 3 1, 3) := by decide +kernel
theorem dX11_isSo_91 : decode cX11_isSo 91 = .ok (.goto (-70), 3) := by decide +kernel
theorem dX11_isSo_94 : decode cX11_isSo 94 = .ok (.iload_n 2, 1) := by decide +kernel
theorem dX11_isSo_95 : decode cX11_isSo 95 = .ok (.ireturn, 1) := by decide +kernel
theorem dX11_manyFit_0 : decode cX11_manyFit 0 = .ok (.iconst 0, 1) := by decide +kernel
theorem dX11_manyFit_1 : decode cX11_manyFit 1 = .ok (.istore_n 1, 1) := by decide +kernel
theorem dX11_manyFit_2 : decode cX11_manyFit 2 = .ok (.iconst 0, 1) := by decide +kernel
theorem dX11_manyFit_3 : decode cX11_manyFit 3 = .ok (.istore_n 2, 1) := by decide +kernel
theorem dX11_manyFit_4 : decode cX11_manyFit 4 = .ok (.iload_n 2, 1) := by decide +kernel
theorem dX11_manyFit_5 : decode cX11_manyFit 5 = .ok (.bipush 6, 2) := by decide +kernel
theorem dX11_manyFit_7 : decode cX11_manyFit 7 = .ok (.if_icmp .ge 25, 3) := by decide +kernel
theorem dX11_manyFit_10 : decode cX11_manyFit 10 = .ok (.iload_n 1, 1) := by decide +kernel
theorem dX11_manyFit_11 : decode cX11_manyFit 11 = .ok (.aload_n 0, 1) := by decide +kernel
theorem dX11_manyFit_12 : decode cX11_manyFit 12 = .ok (.iload_n 2, 1) := by decide +kernel
theorem dX11_manyFit_13 : decode cX11_manyFit 13 = .ok (.invokevirtual 465, 3) := by decide +kernel
theorem dX11_manyFit_16 : decode cX11_manyFit 16 = .ok (.ifCond .eq 7, 3) := by decide +kernel
theorem dX11_manyFit_19 : decode cX11_manyFit 19 = .ok (.iconst 1, 1) := by decide +kernel
theorem dX11_manyFit_20 : decode cX11_manyFit 20 = .ok (.goto 4, 3) := by decide +kernel
theorem dX11_manyFit_23 : decode cX11_manyFit 23 = .ok (.iconst 0, 1) := by decide +kernel
theorem dX11_manyFit_24 : decode cX11_manyFit 24 = .ok (.iadd, 1) := by decide +kernel
theorem dX11_manyFit_25 : decode cX11_manyFit 25 = .ok (.istore_n 1, 1) := by decide +kernel
theorem dX11_manyFit_26 : decode cX11_manyFit 26 = .ok (.iinc 2 1, 3) := by decide +kernel
theorem dX11_manyFit_29 : decode cX11_manyFit 29 = .ok (.goto (-25), 3) := by decide +kernel
theorem dX11_manyFit_32 : decode cX11_manyFit 32 = .ok (.iload_n 1, 1) := by decide +kernel
theorem dX11_manyFit_33 : decode cX11_manyFit 33 = .ok (.ireturn, 1) := by decide +kernel
theorem dX11_askOf_0 : decode cX11_askOf 0 = .ok (.iconst (-1), 1) := by decide +kernel
theorem dX11_askOf_1 : decode cX11_askOf 1 = .ok (.istore_n 2, 1) := by decide +kernel
theorem dX11_askOf_2 : decode cX11_askOf 2 = .ok (.ldc 221, 2) := by decide +kernel
theorem dX11_askOf_4 : decode cX11_askOf 4 = .ok (.istore_n 3, 1) := by decide +kernel
theorem dX11_askOf_5 : decode cX11_askOf 5 = .ok (.iconst 0, 1) := by decide +kernel
theorem dX11_askOf_6 : decode cX11_askOf 6 = .ok (.istore 4, 2) := by decide +kernel
theorem dX11_askOf_8 : decode cX11_askOf 8 = .ok (.iload 4, 2) := by decide +kernel
theorem dX11_askOf_10 : decode cX11_askOf 10 = .ok (.aload_n 0, 1) := by decide +kernel
theorem dX11_askOf_11 : decode cX11_askOf 11 = .ok (.getfield 185, 3) := by decide +kernel
theorem dX11_askOf_14 : decode cX11_askOf 14 = .ok (.if_icmp .ge 97, 3) := by decide +kernel
theorem dX11_askOf_17 : decode cX11_askOf 17 = .ok (.iload_n 1, 1) := by decide +kernel
theorem dX11_askOf_18 : decode cX11_askOf 18 = .ok (.ifCond .le 93, 3) := by decide +kernel
theorem dX11_askOf_21 : decode cX11_askOf 21 = .ok (.iconst 0, 1) := by decide +kernel
theorem dX11_askOf_22 : decode cX11_askOf 22 = .ok (.istore 5, 2) := by decide +kernel
theorem dX11_askOf_24 : decode cX11_askOf 24 = .ok (.iconst 0, 1) := by decide +kernel
theorem dX11_askOf_25 : decode cX11_askOf 25 = .ok (.istore 6, 2) := by decide +kernel
theorem dX11_askOf_27 : decode cX11_askOf 27 = .ok (.iload 6, 2) := by decide +kernel
theorem dX11_askOf_29 : decode cX11_askOf 29 = .ok (.bipush 6, 2) := by decide +kernel
theorem dX11_askOf_31 : decode cX11_askOf 31 = .ok (.if_icmp .ge 39, 3) := by decide +kernel
theorem dX11_askOf_34 : decode cX11_askOf 34 = .ok (.iload 5, 2) := by decide +kernel
theorem dX11_askOf_36 : decode cX11_askOf 36 = .ok (.aload_n 0, 1) := by decide +kernel
theorem dX11_askOf_37 : decode cX11_askOf 37 = .ok (.iload 6, 2) := by decide +kernel
theorem dX11_askOf_39 : decode cX11_askOf 39 = .ok (.invokevirtual 465, 3) := by decide +kernel
theorem dX11_askOf_42 : decode cX11_askOf 42 = .ok (.ifCond .eq 18, 3) := by decide +kernel
theorem dX11_askOf_45 : decode cX11_askOf 45 = .ok (.aload_n 0, 1) := by decide +kernel
theorem dX11_askOf_46 : decode cX11_askOf 46 = .ok (.getfield 65, 3) := by decide +kernel
theorem dX11_askOf_49 : decode cX11_askOf 49 = .ok (.iload 6, 2) := by decide +kernel
theorem dX11_askOf_51 : decode cX11_askOf 51 = .ok (.iaload, 1) := by decide +kernel
theorem dX11_askOf_52 : decode cX11_askOf 52 = .ok (.iload 4, 2) := by decide +kernel
theorem dX11_askOf_54 : decode cX11_askOf 54 = .ok (.ishr, 1) := by decide +kernel
theorem dX11_askOf_55 : decode cX11_askOf 55 = .ok (.iconst 1, 1) := by decide +kernel
theorem dX11_askOf_56 : decode cX11_askOf 56 = .ok (.iand, 1) := by decide +kernel
theorem dX11_askOf_57 : decode cX11_askOf 57 = .ok (.goto 4, 3) := by decide +kernel
theorem dX11_askOf_60 : decode cX11_askOf 60 = .ok (.iconst 0, 1) := by decide +kernel
theorem dX11_askOf_61 : decode cX11_askOf 61 = .ok (.iadd, 1) := by decide +kernel
theorem dX11_askOf_62 : decode cX11_askOf 62 = .ok (.istore 5, 2) := by decide +kernel
theorem dX11_askOf_64 : decode cX11_askOf 64 = .ok (.iinc 6 1, 3) := by decide +kernel
theorem dX11_askOf_67 : decode cX11_askOf 67 = .ok (.goto (-40), 3) := by decide +kernel
theorem dX11_askOf_70 : decode cX11_askOf 70 = .ok (.iload 5, 2) := by decide +kernel
theorem dX11_askOf_72 : decode cX11_askOf 72 = .ok (.iload_n 1, 1) := by decide +kernel
theorem dX11_askOf_73 : decode cX11_askOf 73 = .ok (.iload 5, 2) := by decide +kernel
theorem dX11_askOf_75 : decode cX11_askOf 75 = .ok (.isub, 1) := by decide +kernel
theorem dX11_askOf_76 : decode cX11_askOf 76 = .ok (.if_icmp .le 8, 3) := by decide +kernel
theorem dX11_askOf_79 : decode cX11_askOf 79 = .ok (.iload 5, 2) := by decide +kernel
theorem dX11_askOf_81 : decode cX11_askOf 81 = .ok (.goto 7, 3) := by decide +kernel
theorem dX11_askOf_84 : decode cX11_askOf 84 = .ok (.iload_n 1, 1) := by decide +kernel
theorem dX11_askOf_85 : decode cX11_askOf 85 = .ok (.iload 5, 2) := by decide +kernel
theorem dX11_askOf_87 : decode cX11_askOf 87 = .ok (.isub, 1) := by decide +kernel
theorem dX11_askOf_88 : decode cX11_askOf 88 = .ok (.istore 6, 2) := by decide +kernel
theorem dX11_askOf_90 : decode cX11_askOf 90 = .ok (.iload 6, 2) := by decide +kernel
theorem dX11_askOf_92 : decode cX11_askOf 92 = .ok (.iload_n 3, 1) := by decide +kernel
theorem dX11_askOf_93 : decode cX11_askOf 93 = .ok (.if_icmp .lt 6, 3) := by decide +kernel
theorem dX11_askOf_96 : decode cX11_askOf 96 = .ok (.goto 9, 3) := by decide +kernel
theorem dX11_askOf_99 : decode cX11_askOf 99 = .ok (.iload 4, 2) := by decide +kernel
theorem dX11_askOf_101 : decode cX11_askOf 101 = .ok (.istore_n 2, 1) := by decide +kernel
theorem dX11_askOf_102 : decode cX11_askOf 102 = .ok (.iload 6, 2) := by decide +kernel
theorem dX11_askOf_104 : decode cX11_askOf 104 = .ok (.istore_n 3, 1) := by decide +kernel
theorem dX11_askOf_105 : decode cX11_askOf 105 = .ok (.iinc 4 1, 3) := by decide +kernel
theorem dX11_askOf_108 : decode cX11_askOf 108 = .ok (.goto (-100), 3) := by decide +kernel
theorem dX11_askOf_111 : decode cX11_askOf 111 = .ok (.iload_n 2, 1) := by decide +kernel
theorem dX11_askOf_112 : decode cX11_askOf 112 = .ok (.ireturn, 1) := by decide +kernel
theorem dX11_fits_0 : decode cX11_fits 0 = .ok (.aload_n 0, 1) := by decide +kernel
theorem dX11_fits_1 : decode cX11_fits 1 = .ok (.iload_n 1, 1) := by decide +kernel
theorem dX11_fits_2 : decode cX11_fits 2 = .ok (.invokevirtual 197, 3) := by decide +kernel
theorem dX11_fits_5 : decode cX11_fits 5 = .ok (.ifCond .eq 32, 3) := by decide +kernel
theorem dX11_fits_8 : decode cX11_fits 8 = .ok (.aload_n 0, 1) := by decide +kernel
theorem dX11_fits_9 : decode cX11_fits 9 = .ok (.iload_n 2, 1) := by decide +kernel
theorem dX11_fits_10 : decode cX11_fits 10 = .ok (.invokevirtual 462, 3) := by decide +kernel
theorem dX11_fits_13 : decode cX11_fits 13 = .ok (.ifCond .eq 24, 3) := by decide +kernel
theorem dX11_fits_16 : decode cX11_fits 16 = .ok (.aload_n 0, 1) := by decide +kernel
theorem dX11_fits_17 : decode cX11_fits 17 = .ok (.invokevirtual 468, 3) := by decide +kernel
theorem dX11_fits_20 : decode cX11_fits 20 = .ok (.ifCond .eq 17, 3) := by decide +kernel
theorem dX11_fits_23 : decode cX11_fits 23 = .ok (.iload_n 3, 1) := by decide +kernel
theorem dX11_fits_24 : decode cX11_fits 24 = .ok (.ifCond .lt 13, 3) := by decide +kernel
theorem dX11_fits_27 : decode cX11_fits 27 = .ok (.iload_n 3, 1) := by decide +kernel
theorem dX11_fits_28 : decode cX11_fits 28 = .ok (.iconst 3, 1) := by decide +kernel
theorem dX11_fits_29 : decode cX11_fits 29 = .ok (.bipush 9, 2) := by decide +kernel
theorem dX11_fits_31 : decode cX11_fits 31 = .ok (.invokestatic 123, 3) := by decide +kernel
theorem dX11_fits_34 : decode cX11_fits 34 = .ok (.ifCond .eq 6, 3) := by decide +kernel
theorem dX11_fits_37 : decode cX11_fits 37 = .ok (.bipush (-2), 2) := by decide +kernel
theorem dX11_fits_39 : decode cX11_fits 39 = .ok (.ireturn, 1) := by decide +kernel
theorem dX11_fits_40 : decode cX11_fits 40 = .ok (.aload_n 0, 1) := by decide +kernel
theorem dX11_fits_41 : decode cX11_fits 41 = .ok (.invokevirtual 471, 3) := by decide +kernel
theorem dX11_fits_44 : decode cX11_fits 44 = .ok (.istore 4, 2) := by decide +kernel
theorem dX11_fits_46 : decode cX11_fits 46 = .ok (.iconst 0, 1) := by decide +kernel
theorem dX11_fits_47 : decode cX11_fits 47 = .ok (.istore 5, 2) := by decide +kernel
theorem dX11_fits_49 : decode cX11_fits 49 = .ok (.iload 5, 2) := by decide +kernel
theorem dX11_fits_51 : decode cX11_fits 51 = .ok (.bipush 6, 2) := by decide +kernel
theorem dX11_fits_53 : decode cX11_fits 53 = .ok (.if_icmp .ge 18, 3) := by decide +kernel
theorem dX11_fits_56 : decode cX11_fits 56 = .ok (.aload_n 0, 1) := by decide +kernel
theorem dX11_fits_57 : decode cX11_fits 57 = .ok (.iload 5, 2) := by decide +kernel
theorem dX11_fits_59 : decode cX11_fits 59 = .ok (.invokevirtual 465, 3) := by decide +kernel
theorem dX11_fits_62 : decode cX11_fits 62 = .ok (.ifCond .ne 9, 3) := by decide +kernel
theorem dX11_fits_65 : decode cX11_fits 65 = .ok (.iinc 5 1, 3) := by decide +kernel
theorem dX11_fits_68 : decode cX11_fits 68 = .ok (.goto (-19), 3) := by decide +kernel
theorem dX11_fits_71 : decode cX11_fits 71 = .ok (.iload_n 3, 1) := by decide +kernel
theorem dX11_fits_72 : decode cX11_fits 72 = .ok (.tableswitch 51 0 2 #[28, 31, 44], 28) := by decide +kernel
theorem dX11_fits_100 : decode cX11_fits 100 = .ok (.iload 4, 2) := by decide +kernel
theorem dX11_fits_102 : decode cX11_fits 102 = .ok (.ireturn, 1) := by decide +kernel
theorem dX11_fits_103 : decode cX11_fits 103 = .ok (.iload 4, 2) := by decide +kernel
theorem dX11_fits_105 : decode cX11_fits 105 = .ok (.iconst 1, 1) := by decide +kernel
theorem dX11_fits_106 : decode cX11_fits 106 = .ok (.if_icmp .ne 8, 3) := by decide +kernel
theorem dX11_fits_109 : decode cX11_fits 109 = .ok (.iload 5, 2) := by decide +kernel
theorem dX11_fits_111 : decode cX11_fits 111 = .ok (.goto 4, 3) := by decide +kernel
theorem dX11_fits_114 : decode cX11_fits 114 = .ok (.iconst (-1), 1) := by decide +kernel
theorem dX11_fits_115 : decode cX11_fits 115 = .ok (.ireturn, 1) := by decide +kernel
theorem dX11_fits_116 : decode cX11_fits 116 = .ok (.aload_n 0, 1) := by decide +kernel
theorem dX11_fits_117 : decode cX11_fits 117 = .ok (.iload 4, 2) := by decide +kernel
theorem dX11_fits_119 : decode cX11_fits 119 = .ok (.invokevirtual 474, 3) := by decide +kernel
theorem dX11_fits_122 : decode cX11_fits 122 = .ok (.ireturn, 1) := by decide +kernel
theorem dX11_fits_123 : decode cX11_fits 123 = .ok (.iconst 0, 1) := by decide +kernel
theorem dX11_fits_124 : decode cX11_fits 124 = .ok (.istore 6, 2) := by decide +kernel
theorem dX11_fits_126 : decode cX11_fits 126 = .ok (.iconst 0, 1) := by decide +kernel
theorem dX11_fits_127 : decode cX11_fits 127 = .ok (.istore 7, 2) := by decide +kernel
theorem dX11_fits_129 : decode cX11_fits 129 = .ok (.iload 7, 2) := by decide +kernel
theorem dX11_fits_131 : decode cX11_fits 131 = .ok (.bipush 6, 2) := by decide +kernel
theorem dX11_fits_133 : decode cX11_fits 133 = .ok (.if_icmp .ge 36, 3) := by decide +kernel
theorem dX11_fits_136 : decode cX11_fits 136 = .ok (.aload_n 0, 1) := by decide +kernel
theorem dX11_fits_137 : decode cX11_fits 137 = .ok (.iload 7, 2) := by decide +kernel
theorem dX11_fits_139 : decode cX11_fits 139 = .ok (.invokevirtual 465, 3) := by decide +kernel
theorem dX11_fits_142 : decode cX11_fits 142 = .ok (.ifCond .ne 6, 3) := by decide +kernel
theorem dX11_fits_145 : decode cX11_fits 145 = .ok (.goto 18, 3) := by decide +kernel
theorem dX11_fits_148 : decode cX11_fits 148 = .ok (.iload 6, 2) := by decide +kernel
theorem dX11_fits_150 : decode cX11_fits 150 = .ok (.iload_n 3, 1) := by decide +kernel
theorem dX11_fits_151 : decode cX11_fits 151 = .ok (.bipush 10, 2) := by decide +kernel
theorem dX11_fits_153 : decode cX11_fits 153 = .ok (.isub, 1) := by decide +kernel
theorem dX11_fits_154 : decode cX11_fits 154 = .ok (.if_icmp .ne 6, 3) := by decide +kernel
theorem dX11_fits_157 : decode cX11_fits 157 = .ok (.iload 7, 2) := by decide +kernel
theorem dX11_fits_159 : decode cX11_fits 159 = .ok (.ireturn, 1) := by decide +kernel
theorem dX11_fits_160 : decode cX11_fits 160 = .ok (.iinc 6 1, 3) := by decide +kernel
theorem dX11_fits_163 : decode cX11_fits 163 = .ok (.iinc 7 1, 3) := by decide +kernel
theorem dX11_fits_166 : decode cX11_fits 166 = .ok (.goto (-37), 3) := by decide +kernel
theorem dX11_fits_169 : decode cX11_fits 169 = .ok (.bipush (-2), 2) := by decide +kernel
theorem dX11_fits_171 : decode cX11_fits 171 = .ok (.ireturn, 1) := by decide +kernel
theorem dX11_odds_0 : decode cX11_odds 0 = .ok (.aload_n 0, 1) := by decide +kernel
theorem dX11_odds_1 : decode cX11_odds 1 = .ok (.iload_n 1, 1) := by decide +kernel
theorem dX11_odds_2 : decode cX11_odds 2 = .ok (.invokevirtual 197, 3) := by decide +kernel
theorem dX11_odds_5 : decode cX11_odds 5 = .ok (.ifCond .eq 38, 3) := by decide +kernel
theorem dX11_odds_8 : decode cX11_odds 8 = .ok (.aload_n 0, 1) := by decide +kernel
theorem dX11_odds_9 : decode cX11_odds 9 = .ok (.iload_n 2, 1) := by decide +kernel
theorem dX11_odds_10 : decode cX11_odds 10 = .ok (.invokevirtual 462, 3) := by decide +kernel
theorem dX11_odds_13 : decode cX11_odds 13 = .ok (.ifCond .eq 30, 3) := by decide +kernel
theorem dX11_odds_16 : decode cX11_odds 16 = .ok (.aload_n 0, 1) := by decide +kernel
theorem dX11_odds_17 : decode cX11_odds 17 = .ok (.invokevirtual 468, 3) := by decide +kernel
theorem dX11_odds_20 : decode cX11_odds 20 = .ok (.ifCond .eq 23, 3) := by decide +kernel
theorem dX11_odds_23 : decode cX11_odds 23 = .ok (.aload_n 0, 1) := by decide +kernel
theorem dX11_odds_24 : decode cX11_odds 24 = .ok (.invokevirtual 471, 3) := by decide +kernel
theorem dX11_odds_27 : decode cX11_odds 27 = .ok (.ifCond .eq 16, 3) := by decide +kernel
theorem dX11_odds_30 : decode cX11_odds 30 = .ok (.iload_n 3, 1) := by decide +kernel
theorem dX11_odds_31 : decode cX11_odds 31 = .ok (.iconst 5, 1) := by decide +kernel
theorem dX11_odds_32 : decode cX11_odds 32 = .ok (.if_icmp .eq 15, 3) := by decide +kernel
theorem dX11_odds_35 : decode cX11_odds 35 = .ok (.aload_n 0, 1) := by decide +kernel
theorem dX11_odds_36 : decode cX11_odds 36 = .ok (.iload_n 3, 1) := by decide +kernel
theorem dX11_odds_37 : decode cX11_odds 37 = .ok (.invokevirtual 212, 3) := by decide +kernel
theorem dX11_odds_40 : decode cX11_odds 40 = .ok (.ifCond .ne 7, 3) := by decide +kernel
theorem dX11_odds_43 : decode cX11_odds 43 = .ok (.ldc2_w 301, 3) := by decide +kernel
theorem dX11_odds_46 : decode cX11_odds 46 = .ok (.lreturn, 1) := by decide +kernel
theorem dX11_odds_47 : decode cX11_odds 47 = .ok (.aload_n 0, 1) := by decide +kernel
theorem dX11_odds_48 : decode cX11_odds 48 = .ok (.iload_n 3, 1) := by decide +kernel
theorem dX11_odds_49 : decode cX11_odds 49 = .ok (.invokevirtual 465, 3) := by decide +kernel
theorem dX11_odds_52 : decode cX11_odds 52 = .ok (.ifCond .eq 11, 3) := by decide +kernel
theorem dX11_odds_55 : decode cX11_odds 55 = .ok (.aload_n 0, 1) := by decide +kernel
theorem dX11_odds_56 : decode cX11_odds 56 = .ok (.invokevirtual 471, 3) := by decide +kernel
theorem dX11_odds_59 : decode cX11_odds 59 = .ok (.i2l, 1) := by decide +kernel
theorem dX11_odds_60 : decode cX11_odds 60 = .ok (.goto 4, 3) := by decide +kernel
theorem dX11_odds_63 : decode cX11_odds 63 = .ok (.lconst 1, 1) := by decide +kernel
theorem dX11_odds_64 : decode cX11_odds 64 = .ok (.lstore 5, 2) := by decide +kernel
theorem dX11_odds_66 : decode cX11_odds 66 = .ok (.iload 4, 2) := by decide +kernel
theorem dX11_odds_68 : decode cX11_odds 68 = .ok (.ifCond .eq 8, 3) := by decide +kernel
theorem dX11_odds_71 : decode cX11_odds 71 = .ok (.lload 5, 2) := by decide +kernel
theorem dX11_odds_73 : decode cX11_odds 73 = .ok (.goto 16, 3) := by decide +kernel
theorem dX11_odds_76 : decode cX11_odds 76 = .ok (.aload_n 0, 1) := by decide +kernel
theorem dX11_odds_77 : decode cX11_odds 77 = .ok (.iload_n 3, 1) := by decide +kernel
theorem dX11_odds_78 : decode cX11_odds 78 = .ok (.invokevirtual 465, 3) := by decide +kernel
theorem dX11_odds_81 : decode cX11_odds 81 = .ok (.ifCond .eq 7, 3) := by decide +kernel
theorem dX11_odds_84 : decode cX11_odds 84 = .ok (.lconst 1, 1) := by decide +kernel
theorem dX11_odds_85 : decode cX11_odds 85 = .ok (.goto 4, 3) := by decide +kernel
theorem dX11_odds_88 : decode cX11_odds 88 = .ok (.lconst 0, 1) := by decide +kernel
theorem dX11_odds_89 : decode cX11_odds 89 = .ok (.lreturn, 1) := by decide +kernel
theorem dX11_below_0 : decode cX11_below 0 = .ok (.aload_n 0, 1) := by decide +kernel
theorem dX11_below_1 : decode cX11_below 1 = .ok (.aload_n 0, 1) := by decide +kernel
theorem dX11_below_2 : decode cX11_below 2 = .ok (.getfield 477, 3) := by decide +kernel
theorem dX11_below_5 : decode cX11_below 5 = .ok (.ldc_w 480, 3) := by decide +kernel
theorem dX11_below_8 : decode cX11_below 8 = .ok (.imul, 1) := by decide +kernel
theorem dX11_below_9 : decode cX11_below 9 = .ok (.sipush 12345, 3) := by decide +kernel
theorem dX11_below_12 : decode cX11_below 12 = .ok (.iadd, 1) := by decide +kernel
theorem dX11_below_13 : decode cX11_below 13 = .ok (.putfield 477, 3) := by decide +kernel
theorem dX11_below_16 : decode cX11_below 16 = .ok (.aload_n 0, 1) := by decide +kernel
theorem dX11_below_17 : decode cX11_below 17 = .ok (.getfield 477, 3) := by decide +kernel
theorem dX11_below_20 : decode cX11_below 20 = .ok (.bipush 16, 2) := by decide +kernel
theorem dX11_below_22 : decode cX11_below 22 = .ok (.iushr, 1) := by decide +kernel
theorem dX11_below_23 : decode cX11_below 23 = .ok (.iload_n 1, 1) := by decide +kernel
theorem dX11_below_24 : decode cX11_below 24 = .ok (.irem, 1) := by decide +kernel
theorem dX11_below_25 : decode cX11_below 25 = .ok (.ireturn, 1) := by decide +kernel
theorem dX11_draws_0 : decode cX11_draws 0 = .ok (.aload_n 0, 1) := by decide +kernel
theorem dX11_draws_1 : decode cX11_draws 1 = .ok (.bipush 8, 2) := by decide +kernel
theorem dX11_draws_3 : decode cX11_draws 3 = .ok (.invokevirtual 481, 3) := by decide +kernel
theorem dX11_draws_6 : decode cX11_draws 6 = .ok (.istore_n 1, 1) := by decide +kernel
theorem dX11_draws_7 : decode cX11_draws 7 = .ok (.iload_n 1, 1) := by decide +kernel
theorem dX11_draws_8 : decode cX11_draws 8 = .ok (.iconst 5, 1) := by decide +kernel
theorem dX11_draws_9 : decode cX11_draws 9 = .ok (.if_icmp .le 13, 3) := by decide +kernel
theorem dX11_draws_12 : decode cX11_draws 12 = .ok (.aload_n 0, 1) := by decide +kernel
theorem dX11_draws_13 : decode cX11_draws 13 = .ok (.iload_n 1, 1) := by decide +kernel
theorem dX11_draws_14 : decode cX11_draws 14 = .ok (.iconst 3, 1) := by decide +kernel
theorem dX11_draws_15 : decode cX11_draws 15 = .ok (.isub, 1) := by decide +kernel
theorem dX11_draws_16 : decode cX11_draws 16 = .ok (.iconst (-1), 1) := by decide +kernel
theorem dX11_draws_17 : decode cX11_draws 17 = .ok (.invokevirtual 444, 3) := by decide +kernel
theorem dX11_draws_20 : decode cX11_draws 20 = .ok (.pop, 1) := by decide +kernel
theorem dX11_draws_21 : decode cX11_draws 21 = .ok (.return_, 1) := by decide +kernel
theorem dX11_draws_22 : decode cX11_draws 22 = .ok (.aload_n 0, 1) := by decide +kernel
theorem dX11_draws_23 : decode cX11_draws 23 = .ok (.getfield 191, 3) := by decide +kernel
theorem dX11_draws_26 : decode cX11_draws 26 = .ok (.ifCond .ne 4, 3) := by decide +kernel
theorem dX11_draws_29 : decode cX11_draws 29 = .ok (.return_, 1) := by decide +kernel
theorem dX11_draws_30 : decode cX11_draws 30 = .ok (.iload_n 1, 1) := by decide +kernel
theorem dX11_draws_31 : decode cX11_draws 31 = .ok (.iconst 5, 1) := by decide +kernel
theorem dX11_draws_32 : decode cX11_draws 32 = .ok (.if_icmp .ne 13, 3) := by decide +kernel
theorem dX11_draws_35 : decode cX11_draws 35 = .ok (.iconst 1, 1) := by decide +kernel
theorem dX11_draws_36 : decode cX11_draws 36 = .ok (.aload_n 0, 1) := by decide +kernel
theorem dX11_draws_37 : decode cX11_draws 37 = .ok (.iconst 2, 1) := by decide +kernel
theorem dX11_draws_38 : decode cX11_draws 38 = .ok (.invokevirtual 481, 3) := by decide +kernel
theorem dX11_draws_41 : decode cX11_draws 41 = .ok (.iadd, 1) := by decide +kernel
theorem dX11_draws_42 : decode cX11_draws 42 = .ok (.goto 4, 3) := by decide +kernel
theorem dX11_draws_45 : decode cX11_draws 45 = .ok (.iconst 0, 1) := by decide +kernel
theorem dX11_draws_46 : decode cX11_draws 46 = .ok (.istore_n 2, 1) := by decide +kernel
theorem dX11_draws_47 : decode cX11_draws 47 = .ok (.aload_n 0, 1) := by decide +kernel
theorem dX11_draws_48 : decode cX11_draws 48 = .ok (.iload_n 2, 1) := by decide +kernel
theorem dX11_draws_49 : decode cX11_draws 49 = .ok (.aload_n 0, 1) := by decide +kernel
theorem dX11_draws_50 : decode cX11_draws 50 = .ok (.aload_n 0, 1) := by decide +kernel
theorem dX11_draws_51 : decode cX11_draws 51 = .ok (.getfield 191, 3) := by decide +kernel
theorem dX11_draws_54 : decode cX11_draws 54 = .ok (.invokevirtual 481, 3) := by decide +kernel
theorem dX11_draws_57 : decode cX11_draws 57 = .ok (.invokevirtual 444, 3) := by decide +kernel
theorem dX11_draws_60 : decode cX11_draws 60 = .ok (.pop, 1) := by decide +kernel
theorem dX11_draws_61 : decode cX11_draws 61 = .ok (.return_, 1) := by decide +kernel
theorem dX11_drawn_0 : decode cX11_drawn 0 = .ok (.aload_n 0, 1) := by decide +kernel
theorem dX11_drawn_1 : decode cX11_drawn 1 = .ok (.iload_n 1, 1) := by decide +kernel
theorem dX11_drawn_2 : decode cX11_drawn 2 = .ok (.invokevirtual 197, 3) := by decide +kernel
theorem dX11_drawn_5 : decode cX11_drawn 5 = .ok (.ifCond .eq 13, 3) := by decide +kernel
theorem dX11_drawn_8 : decode cX11_drawn 8 = .ok (.iload_n 3, 1) := by decide +kernel
theorem dX11_drawn_9 : decode cX11_drawn 9 = .ok (.iconst 0, 1) := by decide +kernel
theorem dX11_drawn_10 : decode cX11_drawn 10 = .ok (.bipush 60, 2) := by decide +kernel
theorem dX11_drawn_12 : decode cX11_drawn 12 = .ok (.invokestatic 123, 3) := by decide +kernel
theorem dX11_drawn_15 : decode cX11_drawn 15 = .ok (.ifCond .ne 6, 3) := by decide +kernel
theorem dX11_drawn_18 : decode cX11_drawn 18 = .ok (.bipush (-2), 2) := by decide +kernel
theorem dX11_drawn_20 : decode cX11_drawn 20 = .ok (.ireturn, 1) := by decide +kernel
theorem dX11_drawn_21 : decode cX11_drawn 21 = .ok (.aload_n 0, 1) := by decide +kernel
theorem dX11_drawn_22 : decode cX11_drawn 22 = .ok (.iload_n 2, 1) := by decide +kernel
theorem dX11_drawn_23 : decode cX11_drawn 23 = .ok (.putfield 477, 3) := by decide +kernel
theorem dX11_drawn_26 : decode cX11_drawn 26 = .ok (.aload_n 0, 1) := by decide +kernel
theorem dX11_drawn_27 : decode cX11_drawn 27 = .ok (.invokevirtual 447, 3) := by decide +kernel
theorem dX11_drawn_30 : decode cX11_drawn 30 = .ok (.iconst 0, 1) := by decide +kernel
theorem dX11_drawn_31 : decode cX11_drawn 31 = .ok (.istore 5, 2) := by decide +kernel
theorem dX11_drawn_33 : decode cX11_drawn 33 = .ok (.iload 5, 2) := by decide +kernel
theorem dX11_drawn_35 : decode cX11_drawn 35 = .ok (.iload_n 3, 1) := by decide +kernel
theorem dX11_drawn_36 : decode cX11_drawn 36 = .ok (.if_icmp .ge 13, 3) := by decide +kernel
theorem dX11_drawn_39 : decode cX11_drawn 39 = .ok (.aload_n 0, 1) := by decide +kernel
theorem dX11_drawn_40 : decode cX11_drawn 40 = .ok (.invokevirtual 484, 3) := by decide +kernel
theorem dX11_drawn_43 : decode cX11_drawn 43 = .ok (.iinc 5 1, 3) := by decide +kernel
theorem dX11_drawn_46 : decode cX11_drawn 46 = .ok (.goto (-13), 3) := by decide +kernel
theorem dX11_drawn_49 : decode cX11_drawn 49 = .ok (.aload_n 0, 1) := by decide +kernel
theorem dX11_drawn_50 : decode cX11_drawn 50 = .ok (.iload 4, 2) := by decide +kernel
theorem dX11_drawn_52 : decode cX11_drawn 52 = .ok (.invokevirtual 456, 3) := by decide +kernel
theorem dX11_drawn_55 : decode cX11_drawn 55 = .ok (.ireturn, 1) := by decide +kernel
theorem dX11_count_0 : decode cX11_count 0 = .ok (.iload_n 1, 1) := by decide +kernel
theorem dX11_count_1 : decode cX11_count 1 = .ok (.iconst 0, 1) := by decide +kernel
theorem dX11_count_2 : decode cX11_count 2 = .ok (.iconst 2, 1) := by decide +kernel
theorem dX11_count_3 : decode cX11_count 3 = .ok (.invokestatic 123, 3) := by decide +kernel
theorem dX11_count_6 : decode cX11_count 6 = .ok (.ifCond .eq 12, 3) := by decide +kernel
theorem dX11_count_9 : decode cX11_count 9 = .ok (.aload_n 0, 1) := by decide +kernel
theorem dX11_count_10 : decode cX11_count 10 = .ok (.getfield 7, 3) := by decide +kernel
theorem dX11_count_13 : decode cX11_count 13 = .ok (.iload_n 1, 1) := by decide +kernel
theorem dX11_count_14 : decode cX11_count 14 = .ok (.iaload, 1) := by decide +kernel
theorem dX11_count_15 : decode cX11_count 15 = .ok (.goto 5, 3) := by decide +kernel
theorem dX11_count_18 : decode cX11_count 18 = .ok (.bipush (-2), 2) := by decide +kernel
theorem dX11_count_20 : decode cX11_count 20 = .ok (.ireturn, 1) := by decide +kernel
theorem dX11_image_0 : decode cX11_image 0 = .ok (.iload_n 1, 1) := by decide +kernel
theorem dX11_image_1 : decode cX11_image 1 = .ok (.iconst 0, 1) := by decide +kernel
theorem dX11_image_2 : decode cX11_image 2 = .ok (.iconst 2, 1) := by decide +kernel
theorem dX11_image_3 : decode cX11_image 3 = .ok (.invokestatic 123, 3) := by decide +kernel
theorem dX11_image_6 : decode cX11_image 6 = .ok (.ifCond .ne 5, 3) := by decide +kernel
theorem dX11_image_9 : decode cX11_image 9 = .ok (.iconst 0, 1) := by decide +kernel
theorem dX11_image_10 : decode cX11_image 10 = .ok (.ireturn, 1) := by decide +kernel
theorem dX11_image_11 : decode cX11_image 11 = .ok (.aload_n 0, 1) := by decide +kernel
theorem dX11_image_12 : decode cX11_image 12 = .ok (.getfield 13, 3) := by decide +kernel
theorem dX11_image_15 : decode cX11_image 15 = .ok (.iload_n 1, 1) := by decide +kernel
theorem dX11_image_16 : decode cX11_image 16 = .ok (.iconst 1, 1) := by decide +kernel
theorem dX11_image_17 : decode cX11_image 17 = .ok (.bastore, 1) := by decide +kernel
theorem dX11_image_18 : decode cX11_image 18 = .ok (.iconst 0, 1) := by decide +kernel
theorem dX11_image_19 : decode cX11_image 19 = .ok (.istore_n 2, 1) := by decide +kernel
theorem dX11_image_20 : decode cX11_image 20 = .ok (.iload_n 2, 1) := by decide +kernel
theorem dX11_image_21 : decode cX11_image 21 = .ok (.sipush 934, 3) := by decide +kernel
theorem dX11_image_24 : decode cX11_image 24 = .ok (.if_icmp .ge 29, 3) := by decide +kernel
theorem dX11_image_27 : decode cX11_image 27 = .ok (.aload_n 0, 1) := by decide +kernel
theorem dX11_image_28 : decode cX11_image 28 = .ok (.getfield 7, 3) := by decide +kernel
theorem dX11_image_31 : decode cX11_image 31 = .ok (.sipush 934, 3) := by decide +kernel
theorem dX11_image_34 : decode cX11_image 34 = .ok (.iload_n 1, 1) := by decide +kernel
theorem dX11_image_35 : decode cX11_image 35 = .ok (.iconst 1, 1) := by decide +kernel
theorem dX11_image_36 : decode cX11_image 36 = .ok (.iadd, 1) := by decide +kernel
theorem dX11_image_37 : decode cX11_image 37 = .ok (.imul, 1) := by decide +kernel
theorem dX11_image_38 : decode cX11_image 38 = .ok (.iload_n 2, 1) := by decide +kernel
theorem dX11_image_39 : decode cX11_image 39 = .ok (.iadd, 1) := by decide +kernel
theorem dX11_image_40 : decode cX11_image 40 = .ok (.aload_n 0, 1) := by decide +kernel
theorem dX11_image_41 : decode cX11_image 41 = .ok (.getfield 7, 3) := by decide +kernel
theorem dX11_image_44 : decode cX11_image 44 = .ok (.iload_n 2, 1) := by decide +kernel
theorem dX11_image_45 : decode cX11_image 45 = .ok (.iaload, 1) := by decide +kernel
theorem dX11_image_46 : decode cX11_image 46 = .ok (.iastore, 1) := by decide +kernel
theorem dX11_image_47 : decode cX11_image 47 = .ok (.iinc 2 1, 3) := by decide +kernel
theorem dX11_image_50 : decode cX11_image 50 = .ok (.goto (-30), 3) := by decide +kernel
theorem dX11_image_53 : decode cX11_image 53 = .ok (.iconst 1, 1) := by decide +kernel
theorem dX11_image_54 : decode cX11_image 54 = .ok (.ireturn, 1) := by decide +kernel
theorem dX11_again_0 : decode cX11_again 0 = .ok (.iload_n 1, 1) := by decide +kernel
theorem dX11_again_1 : decode cX11_again 1 = .ok (.iconst 0, 1) := by decide +kernel
theorem dX11_again_2 : decode cX11_again 2 = .ok (.iconst 2, 1) := by decide +kernel
theorem dX11_again_3 : decode cX11_again 3 = .ok (.invokestatic 123, 3) := by decide +kernel
theorem dX11_again_6 : decode cX11_again 6 = .ok (.ifCond .eq 12, 3) := by decide +kernel
theorem dX11_again_9 : decode cX11_again 9 = .ok (.aload_n 0, 1) := by decide +kernel
theorem dX11_again_10 : decode cX11_again 10 = .ok (.getfield 13, 3) := by decide +kernel
theorem dX11_again_13 : decode cX11_again 13 = .ok (.iload_n 1, 1) := by decide +kernel
theorem dX11_again_14 : decode cX11_again 14 = .ok (.baload, 1) := by decide +kernel
theorem dX11_again_15 : decode cX11_again 15 = .ok (.ifCond .ne 5, 3) := by decide +kernel
theorem dX11_again_18 : decode cX11_again 18 = .ok (.iconst 0, 1) := by decide +kernel
theorem dX11_again_19 : decode cX11_again 19 = .ok (.ireturn, 1) := by decide +kernel
theorem dX11_again_20 : decode cX11_again 20 = .ok (.iconst 0, 1) := by decide +kernel
theorem dX11_again_21 : decode cX11_again 21 = .ok (.istore_n 2, 1) := by decide +kernel
theorem dX11_again_22 : decode cX11_again 22 = .ok (.iload_n 2, 1) := by decide +kernel
theorem dX11_again_23 : decode cX11_again 23 = .ok (.sipush 934, 3) := by decide +kernel
theorem dX11_again_26 : decode cX11_again 26 = .ok (.if_icmp .ge 29, 3) := by decide +kernel
theorem dX11_again_29 : decode cX11_again 29 = .ok (.aload_n 0, 1) := by decide +kernel
theorem dX11_again_30 : decode cX11_again 30 = .ok (.getfield 7, 3) := by decide +kernel
theorem dX11_again_33 : decode cX11_again 33 = .ok (.iload_n 2, 1) := by decide +kernel
theorem dX11_again_34 : decode cX11_again 34 = .ok (.aload_n 0, 1) := by decide +kernel
theorem dX11_again_35 : decode cX11_again 35 = .ok (.getfield 7, 3) := by decide +kernel
theorem dX11_again_38 : decode cX11_again 38 = .ok (.sipush 934, 3) := by decide +kernel
theorem dX11_again_41 : decode cX11_again 41 = .ok (.iload_n 1, 1) := by decide +kernel
theorem dX11_again_42 : decode cX11_again 42 = .ok (.iconst 1, 1) := by decide +kernel
theorem dX11_again_43 : decode cX11_again 43 = .ok (.iadd, 1) := by decide +kernel
theorem dX11_again_44 : decode cX11_again 44 = .ok (.imul, 1) := by decide +kernel
theorem dX11_again_45 : decode cX11_again 45 = .ok (.iload_n 2, 1) := by decide +kernel
theorem dX11_again_46 : decode cX11_again 46 = .ok (.iadd, 1) := by decide +kernel
theorem dX11_again_47 : decode cX11_again 47 = .ok (.iaload, 1) := by decide +kernel
theorem dX11_again_48 : decode cX11_again 48 = .ok (.iastore, 1) := by decide +kernel
theorem dX11_again_49 : decode cX11_again 49 = .ok (.iinc 2 1, 3) := by decide +kernel
theorem dX11_again_52 : decode cX11_again 52 = .ok (.goto (-30), 3) := by decide +kernel
theorem dX11_again_55 : decode cX11_again 55 = .ok (.iconst 1, 1) := by decide +kernel
theorem dX11_again_56 : decode cX11_again 56 = .ok (.ireturn, 1) := by decide +kernel
