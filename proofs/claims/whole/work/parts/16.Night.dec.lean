theorem dX3_beginNight_0 : decode cX3_beginNight 0 = .ok (.aload_n 0, 1) := by decide +kernel
theorem dX3_beginNight_1 : decode cX3_beginNight 1 = .ok (.aload_n 0, 1) := by decide +kernel
theorem dX3_beginNight_2 : decode cX3_beginNight 2 = .ok (.getfield 12, 3) := by decide +kernel
theorem dX3_beginNight_5 : decode cX3_beginNight 5 = .ok (.iconst 0, 1) := by decide +kernel
theorem dX3_beginNight_6 : decode cX3_beginNight 6 = .ok (.invokevirtual 83, 3) := by decide +kernel
theorem dX3_beginNight_9 : decode cX3_beginNight 9 = .ok (.putfield 22, 3) := by decide +kernel
theorem dX3_beginNight_12 : decode cX3_beginNight 12 = .ok (.aload_n 0, 1) := by decide +kernel
theorem dX3_beginNight_13 : decode cX3_beginNight 13 = .ok (.iconst 0, 1) := by decide +kernel
theorem dX3_beginNight_14 : decode cX3_beginNight 14 = .ok (.putfield 25, 3) := by decide +kernel
theorem dX3_beginNight_17 : decode cX3_beginNight 17 = .ok (.aload_n 0, 1) := by decide +kernel
theorem dX3_beginNight_18 : decode cX3_beginNight 18 = .ok (.iconst 0, 1) := by decide +kernel
theorem dX3_beginNight_19 : decode cX3_beginNight 19 = .ok (.putfield 40, 3) := by decide +kernel
theorem dX3_beginNight_22 : decode cX3_beginNight 22 = .ok (.aload_n 0, 1) := by decide +kernel
theorem dX3_beginNight_23 : decode cX3_beginNight 23 = .ok (.iconst (-1), 1) := by decide +kernel
theorem dX3_beginNight_24 : decode cX3_beginNight 24 = .ok (.putfield 43, 3) := by decide +kernel
theorem dX3_beginNight_27 : decode cX3_beginNight 27 = .ok (.aload_n 0, 1) := by decide +kernel
theorem dX3_beginNight_28 : decode cX3_beginNight 28 = .ok (.iconst (-1), 1) := by decide +kernel
theorem dX3_beginNight_29 : decode cX3_beginNight 29 = .ok (.putfield 46, 3) := by decide +kernel
theorem dX3_beginNight_32 : decode cX3_beginNight 32 = .ok (.iconst 0, 1) := by decide +kernel
theorem dX3_beginNight_33 : decode cX3_beginNight 33 = .ok (.istore_n 1, 1) := by decide +kernel
theorem dX3_beginNight_34 : decode cX3_beginNight 34 = .ok (.iload_n 1, 1) := by decide +kernel
theorem dX3_beginNight_35 : decode cX3_beginNight 35 = .ok (.iconst 5, 1) := by decide +kernel
theorem dX3_beginNight_36 : decode cX3_beginNight 36 = .ok (.if_icmp .ge 26, 3) := by decide +kernel
theorem dX3_beginNight_39 : decode cX3_beginNight 39 = .ok (.aload_n 0, 1) := by decide +kernel
theorem dX3_beginNight_40 : decode cX3_beginNight 40 = .ok (.getfield 49, 3) := by decide +kernel
theorem dX3_beginNight_43 : decode cX3_beginNight 43 = .ok (.iload_n 1, 1) := by decide +kernel
theorem dX3_beginNight_44 : decode cX3_beginNight 44 = .ok (.aload_n 0, 1) := by decide +kernel
theorem dX3_beginNight_45 : decode cX3_beginNight 45 = .ok (.getfield 12, 3) := by decide +kernel
theorem dX3_beginNight_48 : decode cX3_beginNight 48 = .ok (.getfield 87, 3) := by decide +kernel
theorem dX3_beginNight_51 : decode cX3_beginNight 51 = .ok (.iload_n 1, 1) := by decide +kernel
theorem dX3_beginNight_52 : decode cX3_beginNight 52 = .ok (.invokestatic 90, 3) := by decide +kernel
theorem dX3_beginNight_55 : decode cX3_beginNight 55 = .ok (.iastore, 1) := by decide +kernel
theorem dX3_beginNight_56 : decode cX3_beginNight 56 = .ok (.iinc 1 1, 3) := by decide +kernel
theorem dX3_beginNight_59 : decode cX3_beginNight 59 = .ok (.goto (-25), 3) := by decide +kernel
theorem dX3_beginNight_62 : decode cX3_beginNight 62 = .ok (.return_, 1) := by decide +kernel
theorem dX3_enter_0 : decode cX3_enter 0 = .ok (.aload_n 0, 1) := by decide +kernel
theorem dX3_enter_1 : decode cX3_enter 1 = .ok (.aload_n 1, 1) := by decide +kernel
theorem dX3_enter_2 : decode cX3_enter 2 = .ok (.putfield 12, 3) := by decide +kernel
theorem dX3_enter_5 : decode cX3_enter 5 = .ok (.aload_n 0, 1) := by decide +kernel
theorem dX3_enter_6 : decode cX3_enter 6 = .ok (.iconst 0, 1) := by decide +kernel
theorem dX3_enter_7 : decode cX3_enter 7 = .ok (.putfield 18, 3) := by decide +kernel
theorem dX3_enter_10 : decode cX3_enter 10 = .ok (.aload_n 0, 1) := by decide +kernel
theorem dX3_enter_11 : decode cX3_enter 11 = .ok (.iconst 0, 1) := by decide +kernel
theorem dX3_enter_12 : decode cX3_enter 12 = .ok (.putfield 28, 3) := by decide +kernel
theorem dX3_enter_15 : decode cX3_enter 15 = .ok (.aload_n 0, 1) := by decide +kernel
theorem dX3_enter_16 : decode cX3_enter 16 = .ok (.iconst 0, 1) := by decide +kernel
theorem dX3_enter_17 : decode cX3_enter 17 = .ok (.putfield 31, 3) := by decide +kernel
theorem dX3_enter_20 : decode cX3_enter 20 = .ok (.aload_n 0, 1) := by decide +kernel
theorem dX3_enter_21 : decode cX3_enter 21 = .ok (.iconst 0, 1) := by decide +kernel
theorem dX3_enter_22 : decode cX3_enter 22 = .ok (.putfield 34, 3) := by decide +kernel
theorem dX3_enter_25 : decode cX3_enter 25 = .ok (.aload_n 0, 1) := by decide +kernel
theorem dX3_enter_26 : decode cX3_enter 26 = .ok (.iconst 0, 1) := by decide +kernel
theorem dX3_enter_27 : decode cX3_enter 27 = .ok (.putfield 37, 3) := by decide +kernel
theorem dX3_enter_30 : decode cX3_enter 30 = .ok (.aload_n 0, 1) := by decide +kernel
theorem dX3_enter_31 : decode cX3_enter 31 = .ok (.iconst 0, 1) := by decide +kernel
theorem dX3_enter_32 : decode cX3_enter 32 = .ok (.putfield 59, 3) := by decide +kernel
theorem dX3_enter_35 : decode cX3_enter 35 = .ok (.aload_n 0, 1) := by decide +kernel
theorem dX3_enter_36 : decode cX3_enter 36 = .ok (.iconst 0, 1) := by decide +kernel
theorem dX3_enter_37 : decode cX3_enter 37 = .ok (.putfield 62, 3) := by decide +kernel
theorem dX3_enter_40 : decode cX3_enter 40 = .ok (.aload_n 0, 1) := by decide +kernel
theorem dX3_enter_41 : decode cX3_enter 41 = .ok (.iconst (-1), 1) := by decide +kernel
theorem dX3_enter_42 : decode cX3_enter 42 = .ok (.putfield 65, 3) := by decide +kernel
theorem dX3_enter_45 : decode cX3_enter 45 = .ok (.aload_n 0, 1) := by decide +kernel
theorem dX3_enter_46 : decode cX3_enter 46 = .ok (.iconst (-1), 1) := by decide +kernel
theorem dX3_enter_47 : decode cX3_enter 47 = .ok (.putfield 68, 3) := by decide +kernel
theorem dX3_enter_50 : decode cX3_enter 50 = .ok (.aload_n 0, 1) := by decide +kernel
theorem dX3_enter_51 : decode cX3_enter 51 = .ok (.iconst 0, 1) := by decide +kernel
theorem dX3_enter_52 : decode cX3_enter 52 = .ok (.putfield 71, 3) := by decide +kernel
theorem dX3_enter_55 : decode cX3_enter 55 = .ok (.aload_n 0, 1) := by decide +kernel
theorem dX3_enter_56 : decode cX3_enter 56 = .ok (.getfield 53, 3) := by decide +kernel
theorem dX3_enter_59 : decode cX3_enter 59 = .ok (.iconst 0, 1) := by decide +kernel
theorem dX3_enter_60 : decode cX3_enter 60 = .ok (.invokestatic 74, 3) := by decide +kernel
theorem dX3_enter_63 : decode cX3_enter 63 = .ok (.aload_n 0, 1) := by decide +kernel
theorem dX3_enter_64 : decode cX3_enter 64 = .ok (.invokevirtual 80, 3) := by decide +kernel
theorem dX3_enter_67 : decode cX3_enter 67 = .ok (.return_, 1) := by decide +kernel
theorem dX3_sangAhead_0 : decode cX3_sangAhead 0 = .ok (.aload_n 0, 1) := by decide +kernel
theorem dX3_sangAhead_1 : decode cX3_sangAhead 1 = .ok (.getfield 22, 3) := by decide +kernel
theorem dX3_sangAhead_4 : decode cX3_sangAhead 4 = .ok (.iconst (-1), 1) := by decide +kernel
theorem dX3_sangAhead_5 : decode cX3_sangAhead 5 = .ok (.if_icmp .eq 31, 3) := by decide +kernel
theorem dX3_sangAhead_8 : decode cX3_sangAhead 8 = .ok (.aload_n 0, 1) := by decide +kernel
theorem dX3_sangAhead_9 : decode cX3_sangAhead 9 = .ok (.getfield 43, 3) := by decide +kernel
theorem dX3_sangAhead_12 : decode cX3_sangAhead 12 = .ok (.iconst (-1), 1) := by decide +kernel
theorem dX3_sangAhead_13 : decode cX3_sangAhead 13 = .ok (.if_icmp .eq 23, 3) := by decide +kernel
theorem dX3_sangAhead_16 : decode cX3_sangAhead 16 = .ok (.aload_n 0, 1) := by decide +kernel
theorem dX3_sangAhead_17 : decode cX3_sangAhead 17 = .ok (.getfield 22, 3) := by decide +kernel
theorem dX3_sangAhead_20 : decode cX3_sangAhead 20 = .ok (.aload_n 0, 1) := by decide +kernel
theorem dX3_sangAhead_21 : decode cX3_sangAhead 21 = .ok (.getfield 43, 3) := by decide +kernel
theorem dX3_sangAhead_24 : decode cX3_sangAhead 24 = .ok (.iconst 1, 1) := by decide +kernel
theorem dX3_sangAhead_25 : decode cX3_sangAhead 25 = .ok (.iadd, 1) := by decide +kernel
theorem dX3_sangAhead_26 : decode cX3_sangAhead 26 = .ok (.if_icmp .ne 10, 3) := by decide +kernel
theorem dX3_sangAhead_29 : decode cX3_sangAhead 29 = .ok (.aload_n 0, 1) := by decide +kernel
theorem dX3_sangAhead_30 : decode cX3_sangAhead 30 = .ok (.getfield 46, 3) := by decide +kernel
theorem dX3_sangAhead_33 : decode cX3_sangAhead 33 = .ok (.goto 4, 3) := by decide +kernel
theorem dX3_sangAhead_36 : decode cX3_sangAhead 36 = .ok (.iconst (-1), 1) := by decide +kernel
theorem dX3_sangAhead_37 : decode cX3_sangAhead 37 = .ok (.ireturn, 1) := by decide +kernel
theorem dX3_may_0 : decode cX3_may 0 = .ok (.iload_n 1, 1) := by decide +kernel
theorem dX3_may_1 : decode cX3_may 1 = .ok (.tableswitch 112 0 3 #[31, 89, 89, 98], 31) := by decide +kernel
theorem dX3_may_32 : decode cX3_may 32 = .ok (.aload_n 0, 1) := by decide +kernel
theorem dX3_may_33 : decode cX3_may 33 = .ok (.getfield 22, 3) := by decide +kernel
theorem dX3_may_36 : decode cX3_may 36 = .ok (.iconst (-1), 1) := by decide +kernel
theorem dX3_may_37 : decode cX3_may 37 = .ok (.if_icmp .eq 51, 3) := by decide +kernel
theorem dX3_may_40 : decode cX3_may 40 = .ok (.aload_n 0, 1) := by decide +kernel
theorem dX3_may_41 : decode cX3_may 41 = .ok (.getfield 12, 3) := by decide +kernel
theorem dX3_may_44 : decode cX3_may 44 = .ok (.iload_n 2, 1) := by decide +kernel
theorem dX3_may_45 : decode cX3_may 45 = .ok (.invokevirtual 142, 3) := by decide +kernel
theorem dX3_may_48 : decode cX3_may 48 = .ok (.ifCond .eq 40, 3) := by decide +kernel
theorem dX3_may_51 : decode cX3_may 51 = .ok (.iload_n 2, 1) := by decide +kernel
theorem dX3_may_52 : decode cX3_may 52 = .ok (.aload_n 0, 1) := by decide +kernel
theorem dX3_may_53 : decode cX3_may 53 = .ok (.invokevirtual 146, 3) := by decide +kernel
theorem dX3_may_56 : decode cX3_may 56 = .ok (.if_icmp .eq 32, 3) := by decide +kernel
theorem dX3_may_59 : decode cX3_may 59 = .ok (.aload_n 0, 1) := by decide +kernel
theorem dX3_may_60 : decode cX3_may 60 = .ok (.getfield 49, 3) := by decide +kernel
theorem dX3_may_63 : decode cX3_may 63 = .ok (.iload_n 2, 1) := by decide +kernel
theorem dX3_may_64 : decode cX3_may 64 = .ok (.invokestatic 90, 3) := by decide +kernel
theorem dX3_may_67 : decode cX3_may 67 = .ok (.aload_n 0, 1) := by decide +kernel
theorem dX3_may_68 : decode cX3_may 68 = .ok (.getfield 12, 3) := by decide +kernel
theorem dX3_may_71 : decode cX3_may 71 = .ok (.getfield 150, 3) := by decide +kernel
theorem dX3_may_74 : decode cX3_may 74 = .ok (.aload_n 0, 1) := by decide +kernel
theorem dX3_may_75 : decode cX3_may 75 = .ok (.getfield 22, 3) := by decide +kernel
theorem dX3_may_78 : decode cX3_may 78 = .ok (.invokestatic 90, 3) := by decide +kernel
theorem dX3_may_81 : decode cX3_may 81 = .ok (.if_icmp .lt 7, 3) := by decide +kernel
theorem dX3_may_84 : decode cX3_may 84 = .ok (.iconst 1, 1) := by decide +kernel
theorem dX3_may_85 : decode cX3_may 85 = .ok (.goto 4, 3) := by decide +kernel
theorem dX3_may_88 : decode cX3_may 88 = .ok (.iconst 0, 1) := by decide +kernel
theorem dX3_may_89 : decode cX3_may 89 = .ok (.ireturn, 1) := by decide +kernel
theorem dX3_may_90 : decode cX3_may 90 = .ok (.aload_n 0, 1) := by decide +kernel
theorem dX3_may_91 : decode cX3_may 91 = .ok (.getfield 12, 3) := by decide +kernel
theorem dX3_may_94 : decode cX3_may 94 = .ok (.iload_n 2, 1) := by decide +kernel
theorem dX3_may_95 : decode cX3_may 95 = .ok (.invokevirtual 142, 3) := by decide +kernel
theorem dX3_may_98 : decode cX3_may 98 = .ok (.ireturn, 1) := by decide +kernel
theorem dX3_may_99 : decode cX3_may 99 = .ok (.aload_n 0, 1) := by decide +kernel
theorem dX3_may_100 : decode cX3_may 100 = .ok (.getfield 22, 3) := by decide +kernel
theorem dX3_may_103 : decode cX3_may 103 = .ok (.iconst (-1), 1) := by decide +kernel
theorem dX3_may_104 : decode cX3_may 104 = .ok (.if_icmp .eq 7, 3) := by decide +kernel
theorem dX3_may_107 : decode cX3_may 107 = .ok (.iconst 1, 1) := by decide +kernel
theorem dX3_may_108 : decode cX3_may 108 = .ok (.goto 4, 3) := by decide +kernel
theorem dX3_may_111 : decode cX3_may 111 = .ok (.iconst 0, 1) := by decide +kernel
theorem dX3_may_112 : decode cX3_may 112 = .ok (.ireturn, 1) := by decide +kernel
theorem dX3_may_113 : decode cX3_may 113 = .ok (.aload_n 0, 1) := by decide +kernel
theorem dX3_may_114 : decode cX3_may 114 = .ok (.getfield 18, 3) := by decide +kernel
theorem dX3_may_117 : decode cX3_may 117 = .ok (.bipush 99, 2) := by decide +kernel
theorem dX3_may_119 : decode cX3_may 119 = .ok (.if_icmp .ge 7, 3) := by decide +kernel
theorem dX3_may_122 : decode cX3_may 122 = .ok (.iconst 1, 1) := by decide +kernel
theorem dX3_may_123 : decode cX3_may 123 = .ok (.goto 4, 3) := by decide +kernel
theorem dX3_may_126 : decode cX3_may 126 = .ok (.iconst 0, 1) := by decide +kernel
theorem dX3_may_127 : decode cX3_may 127 = .ok (.ireturn, 1) := by decide +kernel
theorem dX3_goOn_0 : decode cX3_goOn 0 = .ok (.aload_n 0, 1) := by decide +kernel
theorem dX3_goOn_1 : decode cX3_goOn 1 = .ok (.aload_n 0, 1) := by decide +kernel
theorem dX3_goOn_2 : decode cX3_goOn 2 = .ok (.getfield 22, 3) := by decide +kernel
theorem dX3_goOn_5 : decode cX3_goOn 5 = .ok (.putfield 43, 3) := by decide +kernel
theorem dX3_goOn_8 : decode cX3_goOn 8 = .ok (.aload_n 0, 1) := by decide +kernel
theorem dX3_goOn_9 : decode cX3_goOn 9 = .ok (.iload_n 1, 1) := by decide +kernel
theorem dX3_goOn_10 : decode cX3_goOn 10 = .ok (.putfield 46, 3) := by decide +kernel
theorem dX3_goOn_13 : decode cX3_goOn 13 = .ok (.aload_n 0, 1) := by decide +kernel
theorem dX3_goOn_14 : decode cX3_goOn 14 = .ok (.aload_n 0, 1) := by decide +kernel
theorem dX3_goOn_15 : decode cX3_goOn 15 = .ok (.getfield 12, 3) := by decide +kernel
theorem dX3_goOn_18 : decode cX3_goOn 18 = .ok (.aload_n 0, 1) := by decide +kernel
theorem dX3_goOn_19 : decode cX3_goOn 19 = .ok (.getfield 22, 3) := by decide +kernel
theorem dX3_goOn_22 : decode cX3_goOn 22 = .ok (.iconst 1, 1) := by decide +kernel
theorem dX3_goOn_23 : decode cX3_goOn 23 = .ok (.iadd, 1) := by decide +kernel
theorem dX3_goOn_24 : decode cX3_goOn 24 = .ok (.invokevirtual 83, 3) := by decide +kernel
theorem dX3_goOn_27 : decode cX3_goOn 27 = .ok (.putfield 22, 3) := by decide +kernel
theorem dX3_goOn_30 : decode cX3_goOn 30 = .ok (.return_, 1) := by decide +kernel
theorem dX3_singNext_0 : decode cX3_singNext 0 = .ok (.iload_n 1, 1) := by decide +kernel
theorem dX3_singNext_1 : decode cX3_singNext 1 = .ok (.ifCond .lt 8, 3) := by decide +kernel
theorem dX3_singNext_4 : decode cX3_singNext 4 = .ok (.iload_n 1, 1) := by decide +kernel
theorem dX3_singNext_5 : decode cX3_singNext 5 = .ok (.iconst 5, 1) := by decide +kernel
theorem dX3_singNext_6 : decode cX3_singNext 6 = .ok (.if_icmp .lt 4, 3) := by decide +kernel
theorem dX3_singNext_9 : decode cX3_singNext 9 = .ok (.return_, 1) := by decide +kernel
theorem dX3_singNext_10 : decode cX3_singNext 10 = .ok (.aload_n 0, 1) := by decide +kernel
theorem dX3_singNext_11 : decode cX3_singNext 11 = .ok (.getfield 49, 3) := by decide +kernel
theorem dX3_singNext_14 : decode cX3_singNext 14 = .ok (.iload_n 1, 1) := by decide +kernel
theorem dX3_singNext_15 : decode cX3_singNext 15 = .ok (.dup2, 1) := by decide +kernel
theorem dX3_singNext_16 : decode cX3_singNext 16 = .ok (.iaload, 1) := by decide +kernel
theorem dX3_singNext_17 : decode cX3_singNext 17 = .ok (.aload_n 0, 1) := by decide +kernel
theorem dX3_singNext_18 : decode cX3_singNext 18 = .ok (.getfield 12, 3) := by decide +kernel
theorem dX3_singNext_21 : decode cX3_singNext 21 = .ok (.getfield 150, 3) := by decide +kernel
theorem dX3_singNext_24 : decode cX3_singNext 24 = .ok (.aload_n 0, 1) := by decide +kernel
theorem dX3_singNext_25 : decode cX3_singNext 25 = .ok (.getfield 22, 3) := by decide +kernel
theorem dX3_singNext_28 : decode cX3_singNext 28 = .ok (.invokestatic 90, 3) := by decide +kernel
theorem dX3_singNext_31 : decode cX3_singNext 31 = .ok (.isub, 1) := by decide +kernel
theorem dX3_singNext_32 : decode cX3_singNext 32 = .ok (.iastore, 1) := by decide +kernel
theorem dX3_singNext_33 : decode cX3_singNext 33 = .ok (.aload_n 0, 1) := by decide +kernel
theorem dX3_singNext_34 : decode cX3_singNext 34 = .ok (.getfield 53, 3) := by decide +kernel
theorem dX3_singNext_37 : decode cX3_singNext 37 = .ok (.iload_n 1, 1) := by decide +kernel
theorem dX3_singNext_38 : decode cX3_singNext 38 = .ok (.dup2, 1) := by decide +kernel
theorem dX3_singNext_39 : decode cX3_singNext 39 = .ok (.iaload, 1) := by decide +kernel
theorem dX3_singNext_40 : decode cX3_singNext 40 = .ok (.iconst 1, 1) := by decide +kernel
theorem dX3_singNext_41 : decode cX3_singNext 41 = .ok (.iadd, 1) := by decide +kernel
theorem dX3_singNext_42 : decode cX3_singNext 42 = .ok (.iastore, 1) := by decide +kernel
theorem dX3_singNext_43 : decode cX3_singNext 43 = .ok (.aload_n 0, 1) := by decide +kernel
theorem dX3_singNext_44 : decode cX3_singNext 44 = .ok (.getfield 12, 3) := by decide +kernel
theorem dX3_singNext_47 : decode cX3_singNext 47 = .ok (.iload_n 1, 1) := by decide +kernel
theorem dX3_singNext_48 : decode cX3_singNext 48 = .ok (.aload_n 0, 1) := by decide +kernel
theorem dX3_singNext_49 : decode cX3_singNext 49 = .ok (.getfield 12, 3) := by decide +kernel
theorem dX3_singNext_52 : decode cX3_singNext 52 = .ok (.getfield 153, 3) := by decide +kernel
theorem dX3_singNext_55 : decode cX3_singNext 55 = .ok (.aload_n 0, 1) := by decide +kernel
theorem dX3_singNext_56 : decode cX3_singNext 56 = .ok (.getfield 22, 3) := by decide +kernel
theorem dX3_singNext_59 : decode cX3_singNext 59 = .ok (.invokestatic 90, 3) := by decide +kernel
theorem dX3_singNext_62 : decode cX3_singNext 62 = .ok (.aload_n 0, 1) := by decide +kernel
theorem dX3_singNext_63 : decode cX3_singNext 63 = .ok (.getfield 37, 3) := by decide +kernel
theorem dX3_singNext_66 : decode cX3_singNext 66 = .ok (.iload_n 1, 1) := by decide +kernel
theorem dX3_singNext_67 : decode cX3_singNext 67 = .ok (.ishr, 1) := by decide +kernel
theorem dX3_singNext_68 : decode cX3_singNext 68 = .ok (.iconst 1, 1) := by decide +kernel
theorem dX3_singNext_69 : decode cX3_singNext 69 = .ok (.iand, 1) := by decide +kernel
theorem dX3_singNext_70 : decode cX3_singNext 70 = .ok (.ifCond .eq 7, 3) := by decide +kernel
theorem dX3_singNext_73 : decode cX3_singNext 73 = .ok (.iconst 1, 1) := by decide +kernel
theorem dX3_singNext_74 : decode cX3_singNext 74 = .ok (.goto 4, 3) := by decide +kernel
theorem dX3_singNext_77 : decode cX3_singNext 77 = .ok (.iconst 0, 1) := by decide +kernel
theorem dX3_singNext_78 : decode cX3_singNext 78 = .ok (.invokevirtual 156, 3) := by decide +kernel
theorem dX3_singNext_81 : decode cX3_singNext 81 = .ok (.ifCond .ne 61, 3) := by decide +kernel
theorem dX3_singNext_84 : decode cX3_singNext 84 = .ok (.aload_n 0, 1) := by decide +kernel
theorem dX3_singNext_85 : decode cX3_singNext 85 = .ok (.dup, 1) := by decide +kernel
theorem dX3_singNext_86 : decode cX3_singNext 86 = .ok (.getfield 40, 3) := by decide +kernel
theorem dX3_singNext_89 : decode cX3_singNext 89 = .ok (.iconst 1, 1) := by decide +kernel
theorem dX3_singNext_90 : decode cX3_singNext 90 = .ok (.aload_n 0, 1) := by decide +kernel
theorem dX3_singNext_91 : decode cX3_singNext 91 = .ok (.getfield 12, 3) := by decide +kernel
theorem dX3_singNext_94 : decode cX3_singNext 94 = .ok (.getfield 130, 3) := by decide +kernel
theorem dX3_singNext_97 : decode cX3_singNext 97 = .ok (.aload_n 0, 1) := by decide +kernel
theorem dX3_singNext_98 : decode cX3_singNext 98 = .ok (.getfield 22, 3) := by decide +kernel
theorem dX3_singNext_101 : decode cX3_singNext 101 = .ok (.invokestatic 90, 3) := by decide +kernel
theorem dX3_singNext_104 : decode cX3_singNext 104 = .ok (.ishl, 1) := by decide +kernel
theorem dX3_singNext_105 : decode cX3_singNext 105 = .ok (.ior, 1) := by decide +kernel
theorem dX3_singNext_106 : decode cX3_singNext 106 = .ok (.putfield 40, 3) := by decide +kernel
theorem dX3_singNext_109 : decode cX3_singNext 109 = .ok (.aload_n 0, 1) := by decide +kernel
theorem dX3_singNext_110 : decode cX3_singNext 110 = .ok (.dup, 1) := by decide +kernel
theorem dX3_singNext_111 : decode cX3_singNext 111 = .ok (.getfield 34, 3) := by decide +kernel
theorem dX3_singNext_114 : decode cX3_singNext 114 = .ok (.iconst 1, 1) := by decide +kernel
theorem dX3_singNext_115 : decode cX3_singNext 115 = .ok (.iadd, 1) := by decide +kernel
theorem dX3_singNext_116 : decode cX3_singNext 116 = .ok (.putfield 34, 3) := by decide +kernel
theorem dX3_singNext_119 : decode cX3_singNext 119 = .ok (.aload_n 0, 1) := by decide +kernel
theorem dX3_singNext_120 : decode cX3_singNext 120 = .ok (.aload_n 0, 1) := by decide +kernel
theorem dX3_singNext_121 : decode cX3_singNext 121 = .ok (.getfield 65, 3) := by decide +kernel
theorem dX3_singNext_124 : decode cX3_singNext 124 = .ok (.iconst (-1), 1) := by decide +kernel
theorem dX3_singNext_125 : decode cX3_singNext 125 = .ok (.if_icmp .ne 10, 3) := by decide +kernel
theorem dX3_singNext_128 : decode cX3_singNext 128 = .ok (.aload_n 0, 1) := by decide +kernel
theorem dX3_singNext_129 : decode cX3_singNext 129 = .ok (.getfield 59, 3) := by decide +kernel
theorem dX3_singNext_132 : decode cX3_singNext 132 = .ok (.goto 7, 3) := by decide +kernel
theorem dX3_singNext_135 : decode cX3_singNext 135 = .ok (.aload_n 0, 1) := by decide +kernel
theorem dX3_singNext_136 : decode cX3_singNext 136 = .ok (.getfield 65, 3) := by decide +kernel
theorem dX3_singNext_139 : decode cX3_singNext 139 = .ok (.putfield 65, 3) := by decide +kernel
theorem dX3_singNext_142 : decode cX3_singNext 142 = .ok (.aload_n 0, 1) := by decide +kernel
theorem dX3_singNext_143 : decode cX3_singNext 143 = .ok (.iload_n 1, 1) := by decide +kernel
theorem dX3_singNext_144 : decode cX3_singNext 144 = .ok (.invokevirtual 136, 3) := by decide +kernel
theorem dX3_singNext_147 : decode cX3_singNext 147 = .ok (.return_, 1) := by decide +kernel
theorem dX3_endNight_0 : decode cX3_endNight 0 = .ok (.aload_n 0, 1) := by decide +kernel
theorem dX3_endNight_1 : decode cX3_endNight 1 = .ok (.getfield 22, 3) := by decide +kernel
theorem dX3_endNight_4 : decode cX3_endNight 4 = .ok (.iconst (-1), 1) := by decide +kernel
theorem dX3_endNight_5 : decode cX3_endNight 5 = .ok (.if_icmp .ne 8, 3) := by decide +kernel
theorem dX3_endNight_8 : decode cX3_endNight 8 = .ok (.bipush 8, 2) := by decide +kernel
theorem dX3_endNight_10 : decode cX3_endNight 10 = .ok (.goto 7, 3) := by decide +kernel
theorem dX3_endNight_13 : decode cX3_endNight 13 = .ok (.aload_n 0, 1) := by decide +kernel
theorem dX3_endNight_14 : decode cX3_endNight 14 = .ok (.getfield 22, 3) := by decide +kernel
theorem dX3_endNight_17 : decode cX3_endNight 17 = .ok (.istore_n 1, 1) := by decide +kernel
theorem dX3_endNight_18 : decode cX3_endNight 18 = .ok (.iload_n 1, 1) := by decide +kernel
theorem dX3_endNight_19 : decode cX3_endNight 19 = .ok (.bipush 8, 2) := by decide +kernel
theorem dX3_endNight_21 : decode cX3_endNight 21 = .ok (.if_icmp .ge 47, 3) := by decide +kernel
theorem dX3_endNight_24 : decode cX3_endNight 24 = .ok (.aload_n 0, 1) := by decide +kernel
theorem dX3_endNight_25 : decode cX3_endNight 25 = .ok (.getfield 12, 3) := by decide +kernel
theorem dX3_endNight_28 : decode cX3_endNight 28 = .ok (.iload_n 1, 1) := by decide +kernel
theorem dX3_endNight_29 : decode cX3_endNight 29 = .ok (.invokevirtual 160, 3) := by decide +kernel
theorem dX3_endNight_32 : decode cX3_endNight 32 = .ok (.ifCond .eq 30, 3) := by decide +kernel
theorem dX3_endNight_35 : decode cX3_endNight 35 = .ok (.aload_n 0, 1) := by decide +kernel
theorem dX3_endNight_36 : decode cX3_endNight 36 = .ok (.dup, 1) := by decide +kernel
theorem dX3_endNight_37 : decode cX3_endNight 37 = .ok (.getfield 25, 3) := by decide +kernel
theorem dX3_endNight_40 : decode cX3_endNight 40 = .ok (.aload_n 0, 1) := by decide +kernel
theorem dX3_endNight_41 : decode cX3_endNight 41 = .ok (.getfield 12, 3) := by decide +kernel
theorem dX3_endNight_44 : decode cX3_endNight 44 = .ok (.aload_n 0, 1) := by decide +kernel
theorem dX3_endNight_45 : decode cX3_endNight 45 = .ok (.getfield 12, 3) := by decide +kernel
theorem dX3_endNight_48 : decode cX3_endNight 48 = .ok (.getfield 130, 3) := by decide +kernel
theorem dX3_endNight_51 : decode cX3_endNight 51 = .ok (.iload_n 1, 1) := by decide +kernel
theorem dX3_endNight_52 : decode cX3_endNight 52 = .ok (.invokestatic 90, 3) := by decide +kernel
theorem dX3_endNight_55 : decode cX3_endNight 55 = .ok (.invokevirtual 133, 3) := by decide +kernel
theorem dX3_endNight_58 : decode cX3_endNight 58 = .ok (.ior, 1) := by decide +kernel
theorem dX3_endNight_59 : decode cX3_endNight 59 = .ok (.putfield 25, 3) := by decide +kernel
theorem dX3_endNight_62 : decode cX3_endNight 62 = .ok (.iinc 1 1, 3) := by decide +kernel
theorem dX3_endNight_65 : decode cX3_endNight 65 = .ok (.goto (-47), 3) := by decide +kernel
theorem dX3_endNight_68 : decode cX3_endNight 68 = .ok (.aload_n 0, 1) := by decide +kernel
theorem dX3_endNight_69 : decode cX3_endNight 69 = .ok (.getfield 12, 3) := by decide +kernel
theorem dX3_endNight_72 : decode cX3_endNight 72 = .ok (.aload_n 0, 1) := by decide +kernel
theorem dX3_endNight_73 : decode cX3_endNight 73 = .ok (.getfield 25, 3) := by decide +kernel
theorem dX3_endNight_76 : decode cX3_endNight 76 = .ok (.invokevirtual 163, 3) := by decide +kernel
theorem dX3_endNight_79 : decode cX3_endNight 79 = .ok (.istore_n 1, 1) := by decide +kernel
theorem dX3_endNight_80 : decode cX3_endNight 80 = .ok (.aload_n 0, 1) := by decide +kernel
theorem dX3_endNight_81 : decode cX3_endNight 81 = .ok (.dup, 1) := by decide +kernel
theorem dX3_endNight_82 : decode cX3_endNight 82 = .ok (.getfield 28, 3) := by decide +kernel
theorem dX3_endNight_85 : decode cX3_endNight 85 = .ok (.iload_n 1, 1) := by decide +kernel
theorem dX3_endNight_86 : decode cX3_endNight 86 = .ok (.iadd, 1) := by decide +kernel
theorem dX3_endNight_87 : decode cX3_endNight 87 = .ok (.putfield 28, 3) := by decide +kernel
theorem dX3_endNight_90 : decode cX3_endNight 90 = .ok (.aload_n 0, 1) := by decide +kernel
theorem dX3_endNight_91 : decode cX3_endNight 91 = .ok (.dup, 1) := by decide +kernel
theorem dX3_endNight_92 : decode cX3_endNight 92 = .ok (.getfield 31, 3) := by decide +kernel
theorem dX3_endNight_95 : decode cX3_endNight 95 = .ok (.aload_n 0, 1) := by decide +kernel
theorem dX3_endNight_96 : decode cX3_endNight 96 = .ok (.getfield 12, 3) := by decide +kernel
theorem dX3_endNight_99 : decode cX3_endNight 99 = .ok (.aload_n 0, 1) := by decide +kernel
theorem dX3_endNight_100 : decode cX3_endNight 100 = .ok (.getfield 25, 3) := by decide +kernel
theorem dX3_endNight_103 : decode cX3_endNight 103 = .ok (.iconst (-1), 1) := by decide +kernel
theorem dX3_endNight_104 : decode cX3_endNight 104 = .ok (.ixor, 1) := by decide +kernel
theorem dX3_endNight_105 : decode cX3_endNight 105 = .ok (.invokevirtual 166, 3) := by decide +kernel
theorem dX3_endNight_108 : decode cX3_endNight 108 = .ok (.iadd, 1) := by decide +kernel
theorem dX3_endNight_109 : decode cX3_endNight 109 = .ok (.putfield 31, 3) := by decide +kernel
theorem dX3_endNight_112 : decode cX3_endNight 112 = .ok (.aload_n 0, 1) := by decide +kernel
theorem dX3_endNight_113 : decode cX3_endNight 113 = .ok (.dup, 1) := by decide +kernel
theorem dX3_endNight_114 : decode cX3_endNight 114 = .ok (.getfield 71, 3) := by decide +kernel
theorem dX3_endNight_117 : decode cX3_endNight 117 = .ok (.iload_n 1, 1) := by decide +kernel
theorem dX3_endNight_118 : decode cX3_endNight 118 = .ok (.ifCond .ne 7, 3) := by decide +kernel
theorem dX3_endNight_121 : decode cX3_endNight 121 = .ok (.iconst 1, 1) := by decide +kernel
theorem dX3_endNight_122 : decode cX3_endNight 122 = .ok (.goto 4, 3) := by decide +kernel
theorem dX3_endNight_125 : decode cX3_endNight 125 = .ok (.iconst 0, 1) := by decide +kernel
theorem dX3_endNight_126 : decode cX3_endNight 126 = .ok (.iadd, 1) := by decide +kernel
theorem dX3_endNight_127 : decode cX3_endNight 127 = .ok (.putfield 71, 3) := by decide +kernel
theorem dX3_endNight_130 : decode cX3_endNight 130 = .ok (.aload_n 0, 1) := by decide +kernel
theorem dX3_endNight_131 : decode cX3_endNight 131 = .ok (.getfield 68, 3) := by decide +kernel
theorem dX3_endNight_134 : decode cX3_endNight 134 = .ok (.iconst (-1), 1) := by decide +kernel
theorem dX3_endNight_135 : decode cX3_endNight 135 = .ok (.if_icmp .eq 11, 3) := by decide +kernel
theorem dX3_endNight_138 : decode cX3_endNight 138 = .ok (.iload_n 1, 1) := by decide +kernel
theorem dX3_endNight_139 : decode cX3_endNight 139 = .ok (.aload_n 0, 1) := by decide +kernel
theorem dX3_endNight_140 : decode cX3_endNight 140 = .ok (.getfield 62, 3) := by decide +kernel
theorem dX3_endNight_143 : decode cX3_endNight 143 = .ok (.if_icmp .le 16, 3) := by decide +kernel
theorem dX3_endNight_146 : decode cX3_endNight 146 = .ok (.aload_n 0, 1) := by decide +kernel
theorem dX3_endNight_147 : decode cX3_endNight 147 = .ok (.aload_n 0, 1) := by decide +kernel
theorem dX3_endNight_148 : decode cX3_endNight 148 = .ok (.getfield 18, 3) := by decide +kernel
theorem dX3_endNight_151 : decode cX3_endNight 151 = .ok (.putfield 68, 3) := by decide +kernel
theorem dX3_endNight_154 : decode cX3_endNight 154 = .ok (.aload_n 0, 1) := by decide +kernel
theorem dX3_endNight_155 : decode cX3_endNight 155 = .ok (.iload_n 1, 1) := by decide +kernel
theorem dX3_endNight_156 : decode cX3_endNight 156 = .ok (.putfield 62, 3) := by decide +kernel
theorem dX3_endNight_159 : decode cX3_endNight 159 = .ok (.aload_n 0, 1) := by decide +kernel
theorem dX3_endNight_160 : decode cX3_endNight 160 = .ok (.dup, 1) := by decide +kernel
theorem dX3_endNight_161 : decode cX3_endNight 161 = .ok (.getfield 18, 3) := by decide +kernel
theorem dX3_endNight_164 : decode cX3_endNight 164 = .ok (.iconst 1, 1) := by decide +kernel
theorem dX3_endNight_165 : decode cX3_endNight 165 = .ok (.iadd, 1) := by decide +kernel
theorem dX3_endNight_166 : decode cX3_endNight 166 = .ok (.putfield 18, 3) := by decide +kernel
theorem dX3_endNight_169 : decode cX3_endNight 169 = .ok (.aload_n 0, 1) := by decide +kernel
theorem dX3_endNight_170 : decode cX3_endNight 170 = .ok (.invokevirtual 80, 3) := by decide +kernel
theorem dX3_endNight_173 : decode cX3_endNight 173 = .ok (.return_, 1) := by decide +kernel
theorem dX3_does_0 : decode cX3_does 0 = .ok (.aload_n 0, 1) := by decide +kernel
theorem dX3_does_1 : decode cX3_does 1 = .ok (.iload_n 1, 1) := by decide +kernel
theorem dX3_does_2 : decode cX3_does 2 = .ok (.iload_n 2, 1) := by decide +kernel
theorem dX3_does_3 : decode cX3_does 3 = .ok (.invokevirtual 123, 3) := by decide +kernel
theorem dX3_does_6 : decode cX3_does 6 = .ok (.ifCond .ne 5, 3) := by decide +kernel
theorem dX3_does_9 : decode cX3_does 9 = .ok (.iconst 0, 1) := by decide +kernel
theorem dX3_does_10 : decode cX3_does 10 = .ok (.ireturn, 1) := by decide +kernel
theorem dX3_does_11 : decode cX3_does 11 = .ok (.iload_n 1, 1) := by decide +kernel
theorem dX3_does_12 : decode cX3_does 12 = .ok (.tableswitch 110 0 3 #[32, 40, 55, 72], 32) := by decide +kernel
theorem dX3_does_44 : decode cX3_does 44 = .ok (.aload_n 0, 1) := by decide +kernel
theorem dX3_does_45 : decode cX3_does 45 = .ok (.iload_n 2, 1) := by decide +kernel
theorem dX3_does_46 : decode cX3_does 46 = .ok (.invokevirtual 126, 3) := by decide +kernel
theorem dX3_does_49 : decode cX3_does 49 = .ok (.goto 77, 3) := by decide +kernel
theorem dX3_does_52 : decode cX3_does 52 = .ok (.aload_n 0, 1) := by decide +kernel
theorem dX3_does_53 : decode cX3_does 53 = .ok (.dup, 1) := by decide +kernel
theorem dX3_does_54 : decode cX3_does 54 = .ok (.getfield 37, 3) := by decide +kernel
theorem dX3_does_57 : decode cX3_does 57 = .ok (.iconst 1, 1) := by decide +kernel
theorem dX3_does_58 : decode cX3_does 58 = .ok (.iload_n 2, 1) := by decide +kernel
theorem dX3_does_59 : decode cX3_does 59 = .ok (.ishl, 1) := by decide +kernel
theorem dX3_does_60 : decode cX3_does 60 = .ok (.ior, 1) := by decide +kernel
theorem dX3_does_61 : decode cX3_does 61 = .ok (.putfield 37, 3) := by decide +kernel
theorem dX3_does_64 : decode cX3_does 64 = .ok (.goto 62, 3) := by decide +kernel
theorem dX3_does_67 : decode cX3_does 67 = .ok (.aload_n 0, 1) := by decide +kernel
theorem dX3_does_68 : decode cX3_does 68 = .ok (.dup, 1) := by decide +kernel
theorem dX3_does_69 : decode cX3_does 69 = .ok (.getfield 37, 3) := by decide +kernel
theorem dX3_does_72 : decode cX3_does 72 = .ok (.iconst 1, 1) := by decide +kernel
theorem dX3_does_73 : decode cX3_does 73 = .ok (.iload_n 2, 1) := by decide +kernel
theorem dX3_does_74 : decode cX3_does 74 = .ok (.ishl, 1) := by decide +kernel
theorem dX3_does_75 : decode cX3_does 75 = .ok (.iconst (-1), 1) := by decide +kernel
theorem dX3_does_76 : decode cX3_does 76 = .ok (.ixor, 1) := by decide +kernel
theorem dX3_does_77 : decode cX3_does 77 = .ok (.iand, 1) := by decide +kernel
theorem dX3_does_78 : decode cX3_does 78 = .ok (.putfield 37, 3) := by decide +kernel
theorem dX3_does_81 : decode cX3_does 81 = .ok (.goto 45, 3) := by decide +kernel
theorem dX3_does_84 : decode cX3_does 84 = .ok (.aload_n 0, 1) := by decide +kernel
theorem dX3_does_85 : decode cX3_does 85 = .ok (.dup, 1) := by decide +kernel
theorem dX3_does_86 : decode cX3_does 86 = .ok (.getfield 25, 3) := by decide +kernel
theorem dX3_does_89 : decode cX3_does 89 = .ok (.aload_n 0, 1) := by decide +kernel
theorem dX3_does_90 : decode cX3_does 90 = .ok (.getfield 12, 3) := by decide +kernel
theorem dX3_does_93 : decode cX3_does 93 = .ok (.aload_n 0, 1) := by decide +kernel
theorem dX3_does_94 : decode cX3_does 94 = .ok (.getfield 12, 3) := by decide +kernel
theorem dX3_does_97 : decode cX3_does 97 = .ok (.getfield 130, 3) := by decide +kernel
theorem dX3_does_100 : decode cX3_does 100 = .ok (.aload_n 0, 1) := by decide +kernel
theorem dX3_does_101 : decode cX3_does 101 = .ok (.getfield 22, 3) := by decide +kernel
theorem dX3_does_104 : decode cX3_does 104 = .ok (.invokestatic 90, 3) := by decide +kernel
theorem dX3_does_107 : decode cX3_does 107 = .ok (.invokevirtual 133, 3) := by decide +kernel
theorem dX3_does_110 : decode cX3_does 110 = .ok (.ior, 1) := by decide +kernel
theorem dX3_does_111 : decode cX3_does 111 = .ok (.putfield 25, 3) := by decide +kernel
theorem dX3_does_114 : decode cX3_does 114 = .ok (.aload_n 0, 1) := by decide +kernel
theorem dX3_does_115 : decode cX3_does 115 = .ok (.iconst (-1), 1) := by decide +kernel
theorem dX3_does_116 : decode cX3_does 116 = .ok (.invokevirtual 136, 3) := by decide +kernel
theorem dX3_does_119 : decode cX3_does 119 = .ok (.goto 7, 3) := by decide +kernel
theorem dX3_does_122 : decode cX3_does 122 = .ok (.aload_n 0, 1) := by decide +kernel
theorem dX3_does_123 : decode cX3_does 123 = .ok (.invokevirtual 139, 3) := by decide +kernel
theorem dX3_does_126 : decode cX3_does 126 = .ok (.aload_n 0, 1) := by decide +kernel
theorem dX3_does_127 : decode cX3_does 127 = .ok (.dup, 1) := by decide +kernel
theorem dX3_does_128 : decode cX3_does 128 = .ok (.getfield 59, 3) := by decide +kernel
theorem dX3_does_131 : decode cX3_does 131 = .ok (.iconst 1, 1) := by decide +kernel
theorem dX3_does_132 : decode cX3_does 132 = .ok (.iadd, 1) := by decide +kernel
theorem dX3_does_133 : decode cX3_does 133 = .ok (.putfield 59, 3) := by decide +kernel
theorem dX3_does_136 : decode cX3_does 136 = .ok (.iconst 1, 1) := by decide +kernel
theorem dX3_does_137 : decode cX3_does 137 = .ok (.ireturn, 1) := by decide +kernel
theorem dX3_play_0 : decode cX3_play 0 = .ok (.aload_n 0, 1) := by decide +kernel
theorem dX3_play_1 : decode cX3_play 1 = .ok (.aload_n 1, 1) := by decide +kernel
theorem dX3_play_2 : decode cX3_play 2 = .ok (.invokevirtual 94, 3) := by decide +kernel
theorem dX3_play_5 : decode cX3_play 5 = .ok (.iconst 0, 1) := by decide +kernel
theorem dX3_play_6 : decode cX3_play 6 = .ok (.istore 4, 2) := by decide +kernel
theorem dX3_play_8 : decode cX3_play 8 = .ok (.iload 4, 2) := by decide +kernel
theorem dX3_play_10 : decode cX3_play 10 = .ok (.iload_n 3, 1) := by decide +kernel
theorem dX3_play_11 : decode cX3_play 11 = .ok (.if_icmp .ge 46, 3) := by decide +kernel
theorem dX3_play_14 : decode cX3_play 14 = .ok (.iload 4, 2) := by decide +kernel
theorem dX3_play_16 : decode cX3_play 16 = .ok (.aload_n 2, 1) := by decide +kernel
theorem dX3_play_17 : decode cX3_play 17 = .ok (.getfield 98, 3) := by decide +kernel
theorem dX3_play_20 : decode cX3_play 20 = .ok (.if_icmp .ge 37, 3) := by decide +kernel
theorem dX3_play_23 : decode cX3_play 23 = .ok (.aload_n 0, 1) := by decide +kernel
theorem dX3_play_24 : decode cX3_play 24 = .ok (.aload_n 2, 1) := by decide +kernel
theorem dX3_play_25 : decode cX3_play 25 = .ok (.getfield 103, 3) := by decide +kernel
theorem dX3_play_28 : decode cX3_play 28 = .ok (.iload 4, 2) := by decide +kernel
theorem dX3_play_30 : decode cX3_play 30 = .ok (.invokestatic 90, 3) := by decide +kernel
theorem dX3_play_33 : decode cX3_play 33 = .ok (.aload_n 2, 1) := by decide +kernel
theorem dX3_play_34 : decode cX3_play 34 = .ok (.getfield 106, 3) := by decide +kernel
theorem dX3_play_37 : decode cX3_play 37 = .ok (.iload 4, 2) := by decide +kernel
theorem dX3_play_39 : decode cX3_play 39 = .ok (.invokestatic 90, 3) := by decide +kernel
theorem dX3_play_42 : decode cX3_play 42 = .ok (.invokevirtual 109, 3) := by decide +kernel
theorem dX3_play_45 : decode cX3_play 45 = .ok (.ifCond .ne 6, 3) := by decide +kernel
theorem dX3_play_48 : decode cX3_play 48 = .ok (.iload 4, 2) := by decide +kernel
theorem dX3_play_50 : decode cX3_play 50 = .ok (.ireturn, 1) := by decide +kernel
theorem dX3_play_51 : decode cX3_play 51 = .ok (.iinc 4 1, 3) := by decide +kernel
theorem dX3_play_54 : decode cX3_play 54 = .ok (.goto (-46), 3) := by decide +kernel
theorem dX3_play_57 : decode cX3_play 57 = .ok (.iload_n 3, 1) := by decide +kernel
theorem dX3_play_58 : decode cX3_play 58 = .ok (.ireturn, 1) := by decide +kernel
theorem dX3_below_0 : decode cX3_below 0 = .ok (.aload_n 0, 1) := by decide +kernel
theorem dX3_below_1 : decode cX3_below 1 = .ok (.aload_n 0, 1) := by decide +kernel
theorem dX3_below_2 : decode cX3_below 2 = .ok (.getfield 56, 3) := by decide +kernel
theorem dX3_below_5 : decode cX3_below 5 = .ok (.ldc 122, 2) := by decide +kernel
theorem dX3_below_7 : decode cX3_below 7 = .ok (.imul, 1) := by decide +kernel
theorem dX3_below_8 : decode cX3_below 8 = .ok (.sipush 12345, 3) := by decide +kernel
theorem dX3_below_11 : decode cX3_below 11 = .ok (.iadd, 1) := by decide +kernel
theorem dX3_below_12 : decode cX3_below 12 = .ok (.putfield 56, 3) := by decide +kernel
theorem dX3_below_15 : decode cX3_below 15 = .ok (.iload_n 1, 1) := by decide +kernel
theorem dX3_below_16 : decode cX3_below 16 = .ok (.ifCond .le 15, 3) := by decide +kernel
theorem dX3_below_19 : decode cX3_below 19 = .ok (.aload_n 0, 1) := by decide +kernel
theorem dX3_below_20 : decode cX3_below 20 = .ok (.getfield 56, 3) := by decide +kernel
theorem dX3_below_23 : decode cX3_below 23 = .ok (.bipush 16, 2) := by decide +kernel
theorem dX3_below_25 : decode cX3_below 25 = .ok (.iushr, 1) := by decide +kernel
theorem dX3_below_26 : decode cX3_below 26 = .ok (.iload_n 1, 1) := by decide +kernel
theorem dX3_below_27 : decode cX3_below 27 = .ok (.irem, 1) := by decide +kernel
theorem dX3_below_28 : decode cX3_below 28 = .ok (.goto 4, 3) := by decide +kernel
theorem dX3_below_31 : decode cX3_below 31 = .ok (.iconst 0, 1) := by decide +kernel
theorem dX3_below_32 : decode cX3_below 32 = .ok (.ireturn, 1) := by decide +kernel
theorem dX3_drawDeed_0 : decode cX3_drawDeed 0 = .ok (.aload_n 0, 1) := by decide +kernel
theorem dX3_drawDeed_1 : decode cX3_drawDeed 1 = .ok (.bipush 8, 2) := by decide +kernel
theorem dX3_drawDeed_3 : decode cX3_drawDeed 3 = .ok (.invokevirtual 116, 3) := by decide +kernel
theorem dX3_drawDeed_6 : decode cX3_drawDeed 6 = .ok (.istore_n 1, 1) := by decide +kernel
theorem dX3_drawDeed_7 : decode cX3_drawDeed 7 = .ok (.iload_n 1, 1) := by decide +kernel
theorem dX3_drawDeed_8 : decode cX3_drawDeed 8 = .ok (.bipush 6, 2) := by decide +kernel
theorem dX3_drawDeed_10 : decode cX3_drawDeed 10 = .ok (.if_icmp .ne 13, 3) := by decide +kernel
theorem dX3_drawDeed_13 : decode cX3_drawDeed 13 = .ok (.aload_n 0, 1) := by decide +kernel
theorem dX3_drawDeed_14 : decode cX3_drawDeed 14 = .ok (.iconst 3, 1) := by decide +kernel
theorem dX3_drawDeed_15 : decode cX3_drawDeed 15 = .ok (.iconst (-1), 1) := by decide +kernel
theorem dX3_drawDeed_16 : decode cX3_drawDeed 16 = .ok (.invokevirtual 109, 3) := by decide +kernel
theorem dX3_drawDeed_19 : decode cX3_drawDeed 19 = .ok (.pop, 1) := by decide +kernel
theorem dX3_drawDeed_20 : decode cX3_drawDeed 20 = .ok (.goto 69, 3) := by decide +kernel
theorem dX3_drawDeed_23 : decode cX3_drawDeed 23 = .ok (.iload_n 1, 1) := by decide +kernel
theorem dX3_drawDeed_24 : decode cX3_drawDeed 24 = .ok (.bipush 7, 2) := by decide +kernel
theorem dX3_drawDeed_26 : decode cX3_drawDeed 26 = .ok (.if_icmp .ne 13, 3) := by decide +kernel
theorem dX3_drawDeed_29 : decode cX3_drawDeed 29 = .ok (.aload_n 0, 1) := by decide +kernel
theorem dX3_drawDeed_30 : decode cX3_drawDeed 30 = .ok (.iconst 4, 1) := by decide +kernel
theorem dX3_drawDeed_31 : decode cX3_drawDeed 31 = .ok (.iconst (-1), 1) := by decide +kernel
theorem dX3_drawDeed_32 : decode cX3_drawDeed 32 = .ok (.invokevirtual 109, 3) := by decide +kernel
theorem dX3_drawDeed_35 : decode cX3_drawDeed 35 = .ok (.pop, 1) := by decide +kernel
theorem dX3_drawDeed_36 : decode cX3_drawDeed 36 = .ok (.goto 53, 3) := by decide +kernel
theorem dX3_drawDeed_39 : decode cX3_drawDeed 39 = .ok (.aload_n 0, 1) := by decide +kernel
theorem dX3_drawDeed_40 : decode cX3_drawDeed 40 = .ok (.getfield 12, 3) := by decide +kernel
theorem dX3_drawDeed_43 : decode cX3_drawDeed 43 = .ok (.getfield 119, 3) := by decide +kernel
theorem dX3_drawDeed_46 : decode cX3_drawDeed 46 = .ok (.ifCond .le 43, 3) := by decide +kernel
theorem dX3_drawDeed_49 : decode cX3_drawDeed 49 = .ok (.iload_n 1, 1) := by decide +kernel
theorem dX3_drawDeed_50 : decode cX3_drawDeed 50 = .ok (.iconst 5, 1) := by decide +kernel
theorem dX3_drawDeed_51 : decode cX3_drawDeed 51 = .ok (.if_icmp .ge 7, 3) := by decide +kernel
theorem dX3_drawDeed_54 : decode cX3_drawDeed 54 = .ok (.iconst 0, 1) := by decide +kernel
theorem dX3_drawDeed_55 : decode cX3_drawDeed 55 = .ok (.goto 16, 3) := by decide +kernel
theorem dX3_drawDeed_58 : decode cX3_drawDeed 58 = .ok (.aload_n 0, 1) := by decide +kernel
theorem dX3_drawDeed_59 : decode cX3_drawDeed 59 = .ok (.iconst 2, 1) := by decide +kernel
theorem dX3_drawDeed_60 : decode cX3_drawDeed 60 = .ok (.invokevirtual 116, 3) := by decide +kernel
theorem dX3_drawDeed_63 : decode cX3_drawDeed 63 = .ok (.ifCond .ne 7, 3) := by decide +kernel
theorem dX3_drawDeed_66 : decode cX3_drawDeed 66 = .ok (.iconst 1, 1) := by decide +kernel
theorem dX3_drawDeed_67 : decode cX3_drawDeed 67 = .ok (.goto 4, 3) := by decide +kernel
theorem dX3_drawDeed_70 : decode cX3_drawDeed 70 = .ok (.iconst 2, 1) := by decide +kernel
theorem dX3_drawDeed_71 : decode cX3_drawDeed 71 = .ok (.istore_n 2, 1) := by decide +kernel
theorem dX3_drawDeed_72 : decode cX3_drawDeed 72 = .ok (.aload_n 0, 1) := by decide +kernel
theorem dX3_drawDeed_73 : decode cX3_drawDeed 73 = .ok (.iload_n 2, 1) := by decide +kernel
theorem dX3_drawDeed_74 : decode cX3_drawDeed 74 = .ok (.aload_n 0, 1) := by decide +kernel
theorem dX3_drawDeed_75 : decode cX3_drawDeed 75 = .ok (.aload_n 0, 1) := by decide +kernel
theorem dX3_drawDeed_76 : decode cX3_drawDeed 76 = .ok (.getfield 12, 3) := by decide +kernel
theorem dX3_drawDeed_79 : decode cX3_drawDeed 79 = .ok (.getfield 119, 3) := by decide +kernel
theorem dX3_drawDeed_82 : decode cX3_drawDeed 82 = .ok (.invokevirtual 116, 3) := by decide +kernel
theorem dX3_drawDeed_85 : decode cX3_drawDeed 85 = .ok (.invokevirtual 109, 3) := by decide +kernel
theorem dX3_drawDeed_88 : decode cX3_drawDeed 88 = .ok (.pop, 1) := by decide +kernel
theorem dX3_drawDeed_89 : decode cX3_drawDeed 89 = .ok (.return_, 1) := by decide +kernel
theorem dX3_draw_0 : decode cX3_draw 0 = .ok (.aload_n 0, 1) := by decide +kernel
theorem dX3_draw_1 : decode cX3_draw 1 = .ok (.aload_n 1, 1) := by decide +kernel
theorem dX3_draw_2 : decode cX3_draw 2 = .ok (.invokevirtual 94, 3) := by decide +kernel
theorem dX3_draw_5 : decode cX3_draw 5 = .ok (.aload_n 0, 1) := by decide +kernel
theorem dX3_draw_6 : decode cX3_draw 6 = .ok (.iload_n 2, 1) := by decide +kernel
theorem dX3_draw_7 : decode cX3_draw 7 = .ok (.putfield 56, 3) := by decide +kernel
theorem dX3_draw_10 : decode cX3_draw 10 = .ok (.iconst 0, 1) := by decide +kernel
theorem dX3_draw_11 : decode cX3_draw 11 = .ok (.istore 4, 2) := by decide +kernel
theorem dX3_draw_13 : decode cX3_draw 13 = .ok (.iload 4, 2) := by decide +kernel
theorem dX3_draw_15 : decode cX3_draw 15 = .ok (.iload_n 3, 1) := by decide +kernel
theorem dX3_draw_16 : decode cX3_draw 16 = .ok (.if_icmp .ge 13, 3) := by decide +kernel
theorem dX3_draw_19 : decode cX3_draw 19 = .ok (.aload_n 0, 1) := by decide +kernel
theorem dX3_draw_20 : decode cX3_draw 20 = .ok (.invokevirtual 113, 3) := by decide +kernel
theorem dX3_draw_23 : decode cX3_draw 23 = .ok (.iinc 4 1, 3) := by decide +kernel
theorem dX3_draw_26 : decode cX3_draw 26 = .ok (.goto (-13), 3) := by decide +kernel
theorem dX3_draw_29 : decode cX3_draw 29 = .ok (.return_, 1) := by decide +kernel
theorem dX3_hoarsest_0 : decode cX3_hoarsest 0 = .ok (.iconst (-1), 1) := by decide +kernel
theorem dX3_hoarsest_1 : decode cX3_hoarsest 1 = .ok (.istore_n 1, 1) := by decide +kernel
theorem dX3_hoarsest_2 : decode cX3_hoarsest 2 = .ok (.iconst 0, 1) := by decide +kernel
theorem dX3_hoarsest_3 : decode cX3_hoarsest 3 = .ok (.istore_n 2, 1) := by decide +kernel
theorem dX3_hoarsest_4 : decode cX3_hoarsest 4 = .ok (.iload_n 2, 1) := by decide +kernel
theorem dX3_hoarsest_5 : decode cX3_hoarsest 5 = .ok (.iconst 5, 1) := by decide +kernel
theorem dX3_hoarsest_6 : decode cX3_hoarsest 6 = .ok (.if_icmp .ge 42, 3) := by decide +kernel
theorem dX3_hoarsest_9 : decode cX3_hoarsest 9 = .ok (.aload_n 0, 1) := by decide +kernel
theorem dX3_hoarsest_10 : decode cX3_hoarsest 10 = .ok (.getfield 53, 3) := by decide +kernel
theorem dX3_hoarsest_13 : decode cX3_hoarsest 13 = .ok (.iload_n 2, 1) := by decide +kernel
theorem dX3_hoarsest_14 : decode cX3_hoarsest 14 = .ok (.iaload, 1) := by decide +kernel
theorem dX3_hoarsest_15 : decode cX3_hoarsest 15 = .ok (.ifCond .le 27, 3) := by decide +kernel
theorem dX3_hoarsest_18 : decode cX3_hoarsest 18 = .ok (.iload_n 1, 1) := by decide +kernel
theorem dX3_hoarsest_19 : decode cX3_hoarsest 19 = .ok (.iconst (-1), 1) := by decide +kernel
theorem dX3_hoarsest_20 : decode cX3_hoarsest 20 = .ok (.if_icmp .eq 20, 3) := by decide +kernel
theorem dX3_hoarsest_23 : decode cX3_hoarsest 23 = .ok (.aload_n 0, 1) := by decide +kernel
theorem dX3_hoarsest_24 : decode cX3_hoarsest 24 = .ok (.getfield 53, 3) := by decide +kernel
theorem dX3_hoarsest_27 : decode cX3_hoarsest 27 = .ok (.iload_n 2, 1) := by decide +kernel
theorem dX3_hoarsest_28 : decode cX3_hoarsest 28 = .ok (.iaload, 1) := by decide +kernel
theorem dX3_hoarsest_29 : decode cX3_hoarsest 29 = .ok (.aload_n 0, 1) := by decide +kernel
theorem dX3_hoarsest_30 : decode cX3_hoarsest 30 = .ok (.getfield 53, 3) := by decide +kernel
theorem dX3_hoarsest_33 : decode cX3_hoarsest 33 = .ok (.iload_n 1, 1) := by decide +kernel
theorem dX3_hoarsest_34 : decode cX3_hoarsest 34 = .ok (.invokestatic 90, 3) := by decide +kernel
theorem dX3_hoarsest_37 : decode cX3_hoarsest 37 = .ok (.if_icmp .le 5, 3) := by decide +kernel
theorem dX3_hoarsest_40 : decode cX3_hoarsest 40 = .ok (.iload_n 2, 1) := by decide +kernel
theorem dX3_hoarsest_41 : decode cX3_hoarsest 41 = .ok (.istore_n 1, 1) := by decide +kernel
theorem dX3_hoarsest_42 : decode cX3_hoarsest 42 = .ok (.iinc 2 1, 3) := by decide +kernel
theorem dX3_hoarsest_45 : decode cX3_hoarsest 45 = .ok (.goto (-41), 3) := by decide +kernel
theorem dX3_hoarsest_48 : decode cX3_hoarsest 48 = .ok (.iload_n 1, 1) := by decide +kernel
theorem dX3_hoarsest_49 : decode cX3_hoarsest 49 = .ok (.ireturn, 1) := by decide +kernel
theorem dX3_look_0 : decode cX3_look 0 = .ok (.iload_n 1, 1) := by decide +kernel
theorem dX3_look_1 : decode cX3_look 1 = .ok (.tableswitch 96 0 8 #[51, 56, 61, 66, 71, 76, 81, 86, 91], 51) := by decide +kernel
theorem dX3_look_52 : decode cX3_look 52 = .ok (.aload_n 0, 1) := by decide +kernel
theorem dX3_look_53 : decode cX3_look 53 = .ok (.getfield 18, 3) := by decide +kernel
theorem dX3_look_56 : decode cX3_look 56 = .ok (.ireturn, 1) := by decide +kernel
theorem dX3_look_57 : decode cX3_look 57 = .ok (.aload_n 0, 1) := by decide +kernel
theorem dX3_look_58 : decode cX3_look 58 = .ok (.getfield 22, 3) := by decide +kernel
theorem dX3_look_61 : decode cX3_look 61 = .ok (.ireturn, 1) := by decide +kernel
theorem dX3_look_62 : decode cX3_look 62 = .ok (.aload_n 0, 1) := by decide +kernel
theorem dX3_look_63 : decode cX3_look 63 = .ok (.getfield 25, 3) := by decide +kernel
theorem dX3_look_66 : decode cX3_look 66 = .ok (.ireturn, 1) := by decide +kernel
theorem dX3_look_67 : decode cX3_look 67 = .ok (.aload_n 0, 1) := by decide +kernel
theorem dX3_look_68 : decode cX3_look 68 = .ok (.getfield 28, 3) := by decide +kernel
theorem dX3_look_71 : decode cX3_look 71 = .ok (.ireturn, 1) := by decide +kernel
theorem dX3_look_72 : decode cX3_look 72 = .ok (.aload_n 0, 1) := by decide +kernel
theorem dX3_look_73 : decode cX3_look 73 = .ok (.getfield 31, 3) := by decide +kernel
theorem dX3_look_76 : decode cX3_look 76 = .ok (.ireturn, 1) := by decide +kernel
theorem dX3_look_77 : decode cX3_look 77 = .ok (.aload_n 0, 1) := by decide +kernel
theorem dX3_look_78 : decode cX3_look 78 = .ok (.getfield 34, 3) := by decide +kernel
theorem dX3_look_81 : decode cX3_look 81 = .ok (.ireturn, 1) := by decide +kernel
theorem dX3_look_82 : decode cX3_look 82 = .ok (.aload_n 0, 1) := by decide +kernel
theorem dX3_look_83 : decode cX3_look 83 = .ok (.getfield 37, 3) := by decide +kernel
theorem dX3_look_86 : decode cX3_look 86 = .ok (.ireturn, 1) := by decide +kernel
theorem dX3_look_87 : decode cX3_look 87 = .ok (.aload_n 0, 1) := by decide +kernel
theorem dX3_look_88 : decode cX3_look 88 = .ok (.invokevirtual 146, 3) := by decide +kernel
theorem dX3_look_91 : decode cX3_look 91 = .ok (.ireturn, 1) := by decide +kernel
theorem dX3_look_92 : decode cX3_look 92 = .ok (.aload_n 0, 1) := by decide +kernel
theorem dX3_look_93 : decode cX3_look 93 = .ok (.getfield 40, 3) := by decide +kernel
theorem dX3_look_96 : decode cX3_look 96 = .ok (.ireturn, 1) := by decide +kernel
theorem dX3_look_97 : decode cX3_look 97 = .ok (.iload_n 1, 1) := by decide +kernel
theorem dX3_look_98 : decode cX3_look 98 = .ok (.bipush 10, 2) := by decide +kernel
theorem dX3_look_100 : decode cX3_look 100 = .ok (.if_icmp .lt 31, 3) := by decide +kernel
theorem dX3_look_103 : decode cX3_look 103 = .ok (.aload_n 0, 1) := by decide +kernel
theorem dX3_look_104 : decode cX3_look 104 = .ok (.getfield 12, 3) := by decide +kernel
theorem dX3_look_107 : decode cX3_look 107 = .ok (.iload_n 1, 1) := by decide +kernel
theorem dX3_look_108 : decode cX3_look 108 = .ok (.bipush 10, 2) := by decide +kernel
theorem dX3_look_110 : decode cX3_look 110 = .ok (.isub, 1) := by decide +kernel
theorem dX3_look_111 : decode cX3_look 111 = .ok (.invokevirtual 142, 3) := by decide +kernel
theorem dX3_look_114 : decode cX3_look 114 = .ok (.ifCond .eq 17, 3) := by decide +kernel
theorem dX3_look_117 : decode cX3_look 117 = .ok (.aload_n 0, 1) := by decide +kernel
theorem dX3_look_118 : decode cX3_look 118 = .ok (.getfield 49, 3) := by decide +kernel
theorem dX3_look_121 : decode cX3_look 121 = .ok (.iload_n 1, 1) := by decide +kernel
theorem dX3_look_122 : decode cX3_look 122 = .ok (.bipush 10, 2) := by decide +kernel
theorem dX3_look_124 : decode cX3_look 124 = .ok (.isub, 1) := by decide +kernel
theorem dX3_look_125 : decode cX3_look 125 = .ok (.invokestatic 90, 3) := by decide +kernel
theorem dX3_look_128 : decode cX3_look 128 = .ok (.goto 5, 3) := by decide +kernel
theorem dX3_look_131 : decode cX3_look 131 = .ok (.bipush (-2), 2) := by decide +kernel
theorem dX3_look_133 : decode cX3_look 133 = .ok (.ireturn, 1) := by decide +kernel
