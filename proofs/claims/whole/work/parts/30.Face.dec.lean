theorem dX10_feed_0 : decode cX10_feed 0 = .ok (.aload_n 0, 1) := by decide +kernel
theorem dX10_feed_1 : decode cX10_feed 1 = .ok (.getfield 10, 3) := by decide +kernel
theorem dX10_feed_4 : decode cX10_feed 4 = .ok (.getfield 73, 3) := by decide +kernel
theorem dX10_feed_7 : decode cX10_feed 7 = .ok (.bipush 20, 2) := by decide +kernel
theorem dX10_feed_9 : decode cX10_feed 9 = .ok (.iadd, 1) := by decide +kernel
theorem dX10_feed_10 : decode cX10_feed 10 = .ok (.sipush 600, 3) := by decide +kernel
theorem dX10_feed_13 : decode cX10_feed 13 = .ok (.if_icmp .le 5, 3) := by decide +kernel
theorem dX10_feed_16 : decode cX10_feed 16 = .ok (.iconst (-1), 1) := by decide +kernel
theorem dX10_feed_17 : decode cX10_feed 17 = .ok (.ireturn, 1) := by decide +kernel
theorem dX10_feed_18 : decode cX10_feed 18 = .ok (.aload_n 0, 1) := by decide +kernel
theorem dX10_feed_19 : decode cX10_feed 19 = .ok (.getfield 10, 3) := by decide +kernel
theorem dX10_feed_22 : decode cX10_feed 22 = .ok (.iload_n 1, 1) := by decide +kernel
theorem dX10_feed_23 : decode cX10_feed 23 = .ok (.invokevirtual 77, 3) := by decide +kernel
theorem dX10_feed_26 : decode cX10_feed 26 = .ok (.aload_n 0, 1) := by decide +kernel
theorem dX10_feed_27 : decode cX10_feed 27 = .ok (.getfield 10, 3) := by decide +kernel
theorem dX10_feed_30 : decode cX10_feed 30 = .ok (.iload_n 2, 1) := by decide +kernel
theorem dX10_feed_31 : decode cX10_feed 31 = .ok (.invokevirtual 77, 3) := by decide +kernel
theorem dX10_feed_34 : decode cX10_feed 34 = .ok (.aload_n 0, 1) := by decide +kernel
theorem dX10_feed_35 : decode cX10_feed 35 = .ok (.getfield 10, 3) := by decide +kernel
theorem dX10_feed_38 : decode cX10_feed 38 = .ok (.iload_n 3, 1) := by decide +kernel
theorem dX10_feed_39 : decode cX10_feed 39 = .ok (.invokevirtual 77, 3) := by decide +kernel
theorem dX10_feed_42 : decode cX10_feed 42 = .ok (.aload_n 0, 1) := by decide +kernel
theorem dX10_feed_43 : decode cX10_feed 43 = .ok (.getfield 10, 3) := by decide +kernel
theorem dX10_feed_46 : decode cX10_feed 46 = .ok (.iload 4, 2) := by decide +kernel
theorem dX10_feed_48 : decode cX10_feed 48 = .ok (.invokevirtual 77, 3) := by decide +kernel
theorem dX10_feed_51 : decode cX10_feed 51 = .ok (.aload_n 0, 1) := by decide +kernel
theorem dX10_feed_52 : decode cX10_feed 52 = .ok (.getfield 10, 3) := by decide +kernel
theorem dX10_feed_55 : decode cX10_feed 55 = .ok (.iload 5, 2) := by decide +kernel
theorem dX10_feed_57 : decode cX10_feed 57 = .ok (.invokevirtual 77, 3) := by decide +kernel
theorem dX10_feed_60 : decode cX10_feed 60 = .ok (.aload_n 0, 1) := by decide +kernel
theorem dX10_feed_61 : decode cX10_feed 61 = .ok (.getfield 10, 3) := by decide +kernel
theorem dX10_feed_64 : decode cX10_feed 64 = .ok (.getfield 73, 3) := by decide +kernel
theorem dX10_feed_67 : decode cX10_feed 67 = .ok (.ireturn, 1) := by decide +kernel
theorem dX10_end_0 : decode cX10_end 0 = .ok (.iload_n 1, 1) := by decide +kernel
theorem dX10_end_1 : decode cX10_end 1 = .ok (.ifCond .lt 14, 3) := by decide +kernel
theorem dX10_end_4 : decode cX10_end 4 = .ok (.iload_n 1, 1) := by decide +kernel
theorem dX10_end_5 : decode cX10_end 5 = .ok (.aload_n 0, 1) := by decide +kernel
theorem dX10_end_6 : decode cX10_end 6 = .ok (.getfield 10, 3) := by decide +kernel
theorem dX10_end_9 : decode cX10_end 9 = .ok (.getfield 73, 3) := by decide +kernel
theorem dX10_end_12 : decode cX10_end 12 = .ok (.if_icmp .le 5, 3) := by decide +kernel
theorem dX10_end_15 : decode cX10_end 15 = .ok (.iconst (-1), 1) := by decide +kernel
theorem dX10_end_16 : decode cX10_end 16 = .ok (.ireturn, 1) := by decide +kernel
theorem dX10_end_17 : decode cX10_end 17 = .ok (.aload_n 0, 1) := by decide +kernel
theorem dX10_end_18 : decode cX10_end 18 = .ok (.getfield 10, 3) := by decide +kernel
theorem dX10_end_21 : decode cX10_end 21 = .ok (.iload_n 1, 1) := by decide +kernel
theorem dX10_end_22 : decode cX10_end 22 = .ok (.putfield 73, 3) := by decide +kernel
theorem dX10_end_25 : decode cX10_end 25 = .ok (.iload_n 1, 1) := by decide +kernel
theorem dX10_end_26 : decode cX10_end 26 = .ok (.ireturn, 1) := by decide +kernel
theorem dX10_text_0 : decode cX10_text 0 = .ok (.aload_n 0, 1) := by decide +kernel
theorem dX10_text_1 : decode cX10_text 1 = .ok (.getfield 10, 3) := by decide +kernel
theorem dX10_text_4 : decode cX10_text 4 = .ok (.getfield 73, 3) := by decide +kernel
theorem dX10_text_7 : decode cX10_text 7 = .ok (.istore_n 3, 1) := by decide +kernel
theorem dX10_text_8 : decode cX10_text 8 = .ok (.aload_n 0, 1) := by decide +kernel
theorem dX10_text_9 : decode cX10_text 9 = .ok (.getfield 10, 3) := by decide +kernel
theorem dX10_text_12 : decode cX10_text 12 = .ok (.iconst 0, 1) := by decide +kernel
theorem dX10_text_13 : decode cX10_text 13 = .ok (.putfield 73, 3) := by decide +kernel
theorem dX10_text_16 : decode cX10_text 16 = .ok (.aload_n 0, 1) := by decide +kernel
theorem dX10_text_17 : decode cX10_text 17 = .ok (.getfield 10, 3) := by decide +kernel
theorem dX10_text_20 : decode cX10_text 20 = .ok (.iconst 0, 1) := by decide +kernel
theorem dX10_text_21 : decode cX10_text 21 = .ok (.putfield 81, 3) := by decide +kernel
theorem dX10_text_24 : decode cX10_text 24 = .ok (.aload_n 0, 1) := by decide +kernel
theorem dX10_text_25 : decode cX10_text 25 = .ok (.getfield 10, 3) := by decide +kernel
theorem dX10_text_28 : decode cX10_text 28 = .ok (.iconst (-1), 1) := by decide +kernel
theorem dX10_text_29 : decode cX10_text 29 = .ok (.putfield 84, 3) := by decide +kernel
theorem dX10_text_32 : decode cX10_text 32 = .ok (.aload_n 0, 1) := by decide +kernel
theorem dX10_text_33 : decode cX10_text 33 = .ok (.getfield 10, 3) := by decide +kernel
theorem dX10_text_36 : decode cX10_text 36 = .ok (.iload_n 1, 1) := by decide +kernel
theorem dX10_text_37 : decode cX10_text 37 = .ok (.iload_n 2, 1) := by decide +kernel
theorem dX10_text_38 : decode cX10_text 38 = .ok (.invokevirtual 87, 3) := by decide +kernel
theorem dX10_text_41 : decode cX10_text 41 = .ok (.istore 4, 2) := by decide +kernel
theorem dX10_text_43 : decode cX10_text 43 = .ok (.iload 4, 2) := by decide +kernel
theorem dX10_text_45 : decode cX10_text 45 = .ok (.iconst (-1), 1) := by decide +kernel
theorem dX10_text_46 : decode cX10_text 46 = .ok (.if_icmp .ne 6, 3) := by decide +kernel
theorem dX10_text_49 : decode cX10_text 49 = .ok (.bipush (-2), 2) := by decide +kernel
theorem dX10_text_51 : decode cX10_text 51 = .ok (.ireturn, 1) := by decide +kernel
theorem dX10_text_52 : decode cX10_text 52 = .ok (.aload_n 0, 1) := by decide +kernel
theorem dX10_text_53 : decode cX10_text 53 = .ok (.getfield 27, 3) := by decide +kernel
theorem dX10_text_56 : decode cX10_text 56 = .ok (.aload_n 0, 1) := by decide +kernel
theorem dX10_text_57 : decode cX10_text 57 = .ok (.getfield 10, 3) := by decide +kernel
theorem dX10_text_60 : decode cX10_text 60 = .ok (.getfield 91, 3) := by decide +kernel
theorem dX10_text_63 : decode cX10_text 63 = .ok (.iload_n 3, 1) := by decide +kernel
theorem dX10_text_64 : decode cX10_text 64 = .ok (.iload_n 1, 1) := by decide +kernel
theorem dX10_text_65 : decode cX10_text 65 = .ok (.invokevirtual 95, 3) := by decide +kernel
theorem dX10_text_68 : decode cX10_text 68 = .ok (.aload_n 0, 1) := by decide +kernel
theorem dX10_text_69 : decode cX10_text 69 = .ok (.getfield 10, 3) := by decide +kernel
theorem dX10_text_72 : decode cX10_text 72 = .ok (.aload_n 0, 1) := by decide +kernel
theorem dX10_text_73 : decode cX10_text 73 = .ok (.getfield 27, 3) := by decide +kernel
theorem dX10_text_76 : decode cX10_text 76 = .ok (.getfield 99, 3) := by decide +kernel
theorem dX10_text_79 : decode cX10_text 79 = .ok (.putfield 81, 3) := by decide +kernel
theorem dX10_text_82 : decode cX10_text 82 = .ok (.aload_n 0, 1) := by decide +kernel
theorem dX10_text_83 : decode cX10_text 83 = .ok (.getfield 10, 3) := by decide +kernel
theorem dX10_text_86 : decode cX10_text 86 = .ok (.aload_n 0, 1) := by decide +kernel
theorem dX10_text_87 : decode cX10_text 87 = .ok (.getfield 27, 3) := by decide +kernel
theorem dX10_text_90 : decode cX10_text 90 = .ok (.getfield 100, 3) := by decide +kernel
theorem dX10_text_93 : decode cX10_text 93 = .ok (.putfield 84, 3) := by decide +kernel
theorem dX10_text_96 : decode cX10_text 96 = .ok (.aload_n 0, 1) := by decide +kernel
theorem dX10_text_97 : decode cX10_text 97 = .ok (.getfield 27, 3) := by decide +kernel
theorem dX10_text_100 : decode cX10_text 100 = .ok (.getfield 99, 3) := by decide +kernel
theorem dX10_text_103 : decode cX10_text 103 = .ok (.ifCond .eq 5, 3) := by decide +kernel
theorem dX10_text_106 : decode cX10_text 106 = .ok (.iconst (-1), 1) := by decide +kernel
theorem dX10_text_107 : decode cX10_text 107 = .ok (.ireturn, 1) := by decide +kernel
theorem dX10_text_108 : decode cX10_text 108 = .ok (.aload_n 0, 1) := by decide +kernel
theorem dX10_text_109 : decode cX10_text 109 = .ok (.getfield 10, 3) := by decide +kernel
theorem dX10_text_112 : decode cX10_text 112 = .ok (.iload_n 1, 1) := by decide +kernel
theorem dX10_text_113 : decode cX10_text 113 = .ok (.iload 4, 2) := by decide +kernel
theorem dX10_text_115 : decode cX10_text 115 = .ok (.aload_n 0, 1) := by decide +kernel
theorem dX10_text_116 : decode cX10_text 116 = .ok (.getfield 27, 3) := by decide +kernel
theorem dX10_text_119 : decode cX10_text 119 = .ok (.getfield 101, 3) := by decide +kernel
theorem dX10_text_122 : decode cX10_text 122 = .ok (.aload_n 0, 1) := by decide +kernel
theorem dX10_text_123 : decode cX10_text 123 = .ok (.getfield 27, 3) := by decide +kernel
theorem dX10_text_126 : decode cX10_text 126 = .ok (.getfield 105, 3) := by decide +kernel
theorem dX10_text_129 : decode cX10_text 129 = .ok (.invokevirtual 109, 3) := by decide +kernel
theorem dX10_text_132 : decode cX10_text 132 = .ok (.iload 4, 2) := by decide +kernel
theorem dX10_text_134 : decode cX10_text 134 = .ok (.ireturn, 1) := by decide +kernel
theorem dX10_fault_0 : decode cX10_fault 0 = .ok (.iload_n 1, 1) := by decide +kernel
theorem dX10_fault_1 : decode cX10_fault 1 = .ok (.ifCond .ne 11, 3) := by decide +kernel
theorem dX10_fault_4 : decode cX10_fault 4 = .ok (.aload_n 0, 1) := by decide +kernel
theorem dX10_fault_5 : decode cX10_fault 5 = .ok (.getfield 10, 3) := by decide +kernel
theorem dX10_fault_8 : decode cX10_fault 8 = .ok (.getfield 81, 3) := by decide +kernel
theorem dX10_fault_11 : decode cX10_fault 11 = .ok (.ireturn, 1) := by decide +kernel
theorem dX10_fault_12 : decode cX10_fault 12 = .ok (.iload_n 1, 1) := by decide +kernel
theorem dX10_fault_13 : decode cX10_fault 13 = .ok (.iconst 1, 1) := by decide +kernel
theorem dX10_fault_14 : decode cX10_fault 14 = .ok (.if_icmp .ne 13, 3) := by decide +kernel
theorem dX10_fault_17 : decode cX10_fault 17 = .ok (.aload_n 0, 1) := by decide +kernel
theorem dX10_fault_18 : decode cX10_fault 18 = .ok (.getfield 10, 3) := by decide +kernel
theorem dX10_fault_21 : decode cX10_fault 21 = .ok (.getfield 84, 3) := by decide +kernel
theorem dX10_fault_24 : decode cX10_fault 24 = .ok (.goto 4, 3) := by decide +kernel
theorem dX10_fault_27 : decode cX10_fault 27 = .ok (.iconst (-1), 1) := by decide +kernel
theorem dX10_fault_28 : decode cX10_fault 28 = .ok (.ireturn, 1) := by decide +kernel
theorem dX10_house_0 : decode cX10_house 0 = .ok (.aload_n 0, 1) := by decide +kernel
theorem dX10_house_1 : decode cX10_house 1 = .ok (.getfield 10, 3) := by decide +kernel
theorem dX10_house_4 : decode cX10_house 4 = .ok (.iload_n 1, 1) := by decide +kernel
theorem dX10_house_5 : decode cX10_house 5 = .ok (.invokevirtual 113, 3) := by decide +kernel
theorem dX10_house_8 : decode cX10_house 8 = .ok (.astore_n 3, 1) := by decide +kernel
theorem dX10_house_9 : decode cX10_house 9 = .ok (.aload_n 3, 1) := by decide +kernel
theorem dX10_house_10 : decode cX10_house 10 = .ok (.ifnonnull 5, 3) := by decide +kernel
theorem dX10_house_13 : decode cX10_house 13 = .ok (.iconst (-1), 1) := by decide +kernel
theorem dX10_house_14 : decode cX10_house 14 = .ok (.ireturn, 1) := by decide +kernel
theorem dX10_house_15 : decode cX10_house 15 = .ok (.iload_n 2, 1) := by decide +kernel
theorem dX10_house_16 : decode cX10_house 16 = .ok (.tableswitch 61 0 4 #[36, 41, 46, 51, 56], 36) := by decide +kernel
theorem dX10_house_52 : decode cX10_house 52 = .ok (.aload_n 3, 1) := by decide +kernel
theorem dX10_house_53 : decode cX10_house 53 = .ok (.getfield 117, 3) := by decide +kernel
theorem dX10_house_56 : decode cX10_house 56 = .ok (.ireturn, 1) := by decide +kernel
theorem dX10_house_57 : decode cX10_house 57 = .ok (.aload_n 3, 1) := by decide +kernel
theorem dX10_house_58 : decode cX10_house 58 = .ok (.getfield 122, 3) := by decide +kernel
theorem dX10_house_61 : decode cX10_house 61 = .ok (.ireturn, 1) := by decide +kernel
theorem dX10_house_62 : decode cX10_house 62 = .ok (.aload_n 3, 1) := by decide +kernel
theorem dX10_house_63 : decode cX10_house 63 = .ok (.getfield 125, 3) := by decide +kernel
theorem dX10_house_66 : decode cX10_house 66 = .ok (.ireturn, 1) := by decide +kernel
theorem dX10_house_67 : decode cX10_house 67 = .ok (.aload_n 3, 1) := by decide +kernel
theorem dX10_house_68 : decode cX10_house 68 = .ok (.getfield 128, 3) := by decide +kernel
theorem dX10_house_71 : decode cX10_house 71 = .ok (.ireturn, 1) := by decide +kernel
theorem dX10_house_72 : decode cX10_house 72 = .ok (.aload_n 3, 1) := by decide +kernel
theorem dX10_house_73 : decode cX10_house 73 = .ok (.getfield 131, 3) := by decide +kernel
theorem dX10_house_76 : decode cX10_house 76 = .ok (.ireturn, 1) := by decide +kernel
theorem dX10_house_77 : decode cX10_house 77 = .ok (.aload_n 3, 1) := by decide +kernel
theorem dX10_house_78 : decode cX10_house 78 = .ok (.iload_n 2, 1) := by decide +kernel
theorem dX10_house_79 : decode cX10_house 79 = .ok (.invokevirtual 134, 3) := by decide +kernel
theorem dX10_house_82 : decode cX10_house 82 = .ok (.ireturn, 1) := by decide +kernel
theorem dX10_rowOf_0 : decode cX10_rowOf 0 = .ok (.aload_n 0, 1) := by decide +kernel
theorem dX10_rowOf_1 : decode cX10_rowOf 1 = .ok (.ifnonnull 6, 3) := by decide +kernel
theorem dX10_rowOf_4 : decode cX10_rowOf 4 = .ok (.bipush (-2), 2) := by decide +kernel
theorem dX10_rowOf_6 : decode cX10_rowOf 6 = .ok (.ireturn, 1) := by decide +kernel
theorem dX10_rowOf_7 : decode cX10_rowOf 7 = .ok (.iload_n 1, 1) := by decide +kernel
theorem dX10_rowOf_8 : decode cX10_rowOf 8 = .ok (.iconst (-1), 1) := by decide +kernel
theorem dX10_rowOf_9 : decode cX10_rowOf 9 = .ok (.if_icmp .ne 17, 3) := by decide +kernel
theorem dX10_rowOf_12 : decode cX10_rowOf 12 = .ok (.iload_n 2, 1) := by decide +kernel
theorem dX10_rowOf_13 : decode cX10_rowOf 13 = .ok (.ifCond .ne 10, 3) := by decide +kernel
theorem dX10_rowOf_16 : decode cX10_rowOf 16 = .ok (.aload_n 0, 1) := by decide +kernel
theorem dX10_rowOf_17 : decode cX10_rowOf 17 = .ok (.getfield 146, 3) := by decide +kernel
theorem dX10_rowOf_20 : decode cX10_rowOf 20 = .ok (.goto 5, 3) := by decide +kernel
theorem dX10_rowOf_23 : decode cX10_rowOf 23 = .ok (.bipush (-2), 2) := by decide +kernel
theorem dX10_rowOf_25 : decode cX10_rowOf 25 = .ok (.ireturn, 1) := by decide +kernel
theorem dX10_rowOf_26 : decode cX10_rowOf 26 = .ok (.iload_n 1, 1) := by decide +kernel
theorem dX10_rowOf_27 : decode cX10_rowOf 27 = .ok (.ifCond .lt 20, 3) := by decide +kernel
theorem dX10_rowOf_30 : decode cX10_rowOf 30 = .ok (.iload_n 1, 1) := by decide +kernel
theorem dX10_rowOf_31 : decode cX10_rowOf 31 = .ok (.aload_n 0, 1) := by decide +kernel
theorem dX10_rowOf_32 : decode cX10_rowOf 32 = .ok (.getfield 146, 3) := by decide +kernel
theorem dX10_rowOf_35 : decode cX10_rowOf 35 = .ok (.if_icmp .ge 12, 3) := by decide +kernel
theorem dX10_rowOf_38 : decode cX10_rowOf 38 = .ok (.iload_n 2, 1) := by decide +kernel
theorem dX10_rowOf_39 : decode cX10_rowOf 39 = .ok (.ifCond .lt 8, 3) := by decide +kernel
theorem dX10_rowOf_42 : decode cX10_rowOf 42 = .ok (.iload_n 2, 1) := by decide +kernel
theorem dX10_rowOf_43 : decode cX10_rowOf 43 = .ok (.iconst 1, 1) := by decide +kernel
theorem dX10_rowOf_44 : decode cX10_rowOf 44 = .ok (.if_icmp .le 6, 3) := by decide +kernel
theorem dX10_rowOf_47 : decode cX10_rowOf 47 = .ok (.bipush (-2), 2) := by decide +kernel
theorem dX10_rowOf_49 : decode cX10_rowOf 49 = .ok (.ireturn, 1) := by decide +kernel
theorem dX10_rowOf_50 : decode cX10_rowOf 50 = .ok (.iload_n 2, 1) := by decide +kernel
theorem dX10_rowOf_51 : decode cX10_rowOf 51 = .ok (.ifCond .ne 14, 3) := by decide +kernel
theorem dX10_rowOf_54 : decode cX10_rowOf 54 = .ok (.aload_n 0, 1) := by decide +kernel
theorem dX10_rowOf_55 : decode cX10_rowOf 55 = .ok (.getfield 335, 3) := by decide +kernel
theorem dX10_rowOf_58 : decode cX10_rowOf 58 = .ok (.iload_n 1, 1) := by decide +kernel
theorem dX10_rowOf_59 : decode cX10_rowOf 59 = .ok (.invokestatic 338, 3) := by decide +kernel
theorem dX10_rowOf_62 : decode cX10_rowOf 62 = .ok (.goto 11, 3) := by decide +kernel
theorem dX10_rowOf_65 : decode cX10_rowOf 65 = .ok (.aload_n 0, 1) := by decide +kernel
theorem dX10_rowOf_66 : decode cX10_rowOf 66 = .ok (.getfield 342, 3) := by decide +kernel
theorem dX10_rowOf_69 : decode cX10_rowOf 69 = .ok (.iload_n 1, 1) := by decide +kernel
theorem dX10_rowOf_70 : decode cX10_rowOf 70 = .ok (.invokestatic 338, 3) := by decide +kernel
theorem dX10_rowOf_73 : decode cX10_rowOf 73 = .ok (.ireturn, 1) := by decide +kernel
theorem dX10_deed_0 : decode cX10_deed 0 = .ok (.aload_n 0, 1) := by decide +kernel
theorem dX10_deed_1 : decode cX10_deed 1 = .ok (.getfield 10, 3) := by decide +kernel
theorem dX10_deed_4 : decode cX10_deed 4 = .ok (.iload_n 1, 1) := by decide +kernel
theorem dX10_deed_5 : decode cX10_deed 5 = .ok (.invokevirtual 138, 3) := by decide +kernel
theorem dX10_deed_8 : decode cX10_deed 8 = .ok (.iload_n 2, 1) := by decide +kernel
theorem dX10_deed_9 : decode cX10_deed 9 = .ok (.iload_n 3, 1) := by decide +kernel
theorem dX10_deed_10 : decode cX10_deed 10 = .ok (.invokestatic 142, 3) := by decide +kernel
theorem dX10_deed_13 : decode cX10_deed 13 = .ok (.ireturn, 1) := by decide +kernel
theorem dX10_stop_0 : decode cX10_stop 0 = .ok (.aload_n 0, 1) := by decide +kernel
theorem dX10_stop_1 : decode cX10_stop 1 = .ok (.getfield 10, 3) := by decide +kernel
theorem dX10_stop_4 : decode cX10_stop 4 = .ok (.iload_n 1, 1) := by decide +kernel
theorem dX10_stop_5 : decode cX10_stop 5 = .ok (.invokevirtual 113, 3) := by decide +kernel
theorem dX10_stop_8 : decode cX10_stop 8 = .ok (.astore_n 3, 1) := by decide +kernel
theorem dX10_stop_9 : decode cX10_stop 9 = .ok (.aload_n 0, 1) := by decide +kernel
theorem dX10_stop_10 : decode cX10_stop 10 = .ok (.getfield 10, 3) := by decide +kernel
theorem dX10_stop_13 : decode cX10_stop 13 = .ok (.iload_n 2, 1) := by decide +kernel
theorem dX10_stop_14 : decode cX10_stop 14 = .ok (.invokevirtual 138, 3) := by decide +kernel
theorem dX10_stop_17 : decode cX10_stop 17 = .ok (.astore 4, 2) := by decide +kernel
theorem dX10_stop_19 : decode cX10_stop 19 = .ok (.aload_n 3, 1) := by decide +kernel
theorem dX10_stop_20 : decode cX10_stop 20 = .ok (.ifnull 8, 3) := by decide +kernel
theorem dX10_stop_23 : decode cX10_stop 23 = .ok (.aload 4, 2) := by decide +kernel
theorem dX10_stop_25 : decode cX10_stop 25 = .ok (.ifnonnull 5, 3) := by decide +kernel
theorem dX10_stop_28 : decode cX10_stop 28 = .ok (.iconst (-1), 1) := by decide +kernel
theorem dX10_stop_29 : decode cX10_stop 29 = .ok (.ireturn, 1) := by decide +kernel
theorem dX10_stop_30 : decode cX10_stop 30 = .ok (.aload_n 0, 1) := by decide +kernel
theorem dX10_stop_31 : decode cX10_stop 31 = .ok (.getfield 41, 3) := by decide +kernel
theorem dX10_stop_34 : decode cX10_stop 34 = .ok (.aload_n 3, 1) := by decide +kernel
theorem dX10_stop_35 : decode cX10_stop 35 = .ok (.aload 4, 2) := by decide +kernel
theorem dX10_stop_37 : decode cX10_stop 37 = .ok (.aload 4, 2) := by decide +kernel
theorem dX10_stop_39 : decode cX10_stop 39 = .ok (.getfield 146, 3) := by decide +kernel
theorem dX10_stop_42 : decode cX10_stop 42 = .ok (.invokevirtual 149, 3) := by decide +kernel
theorem dX10_stop_45 : decode cX10_stop 45 = .ok (.ireturn, 1) := by decide +kernel
theorem dX10_state_0 : decode cX10_state 0 = .ok (.aload_n 0, 1) := by decide +kernel
theorem dX10_state_1 : decode cX10_state 1 = .ok (.getfield 10, 3) := by decide +kernel
theorem dX10_state_4 : decode cX10_state 4 = .ok (.iload_n 1, 1) := by decide +kernel
theorem dX10_state_5 : decode cX10_state 5 = .ok (.invokevirtual 113, 3) := by decide +kernel
theorem dX10_state_8 : decode cX10_state 8 = .ok (.astore 5, 2) := by decide +kernel
theorem dX10_state_10 : decode cX10_state 10 = .ok (.aload_n 0, 1) := by decide +kernel
theorem dX10_state_11 : decode cX10_state 11 = .ok (.getfield 10, 3) := by decide +kernel
theorem dX10_state_14 : decode cX10_state 14 = .ok (.iload_n 2, 1) := by decide +kernel
theorem dX10_state_15 : decode cX10_state 15 = .ok (.invokevirtual 138, 3) := by decide +kernel
theorem dX10_state_18 : decode cX10_state 18 = .ok (.astore 6, 2) := by decide +kernel
theorem dX10_state_20 : decode cX10_state 20 = .ok (.aload 5, 2) := by decide +kernel
theorem dX10_state_22 : decode cX10_state 22 = .ok (.ifnull 21, 3) := by decide +kernel
theorem dX10_state_25 : decode cX10_state 25 = .ok (.aload 6, 2) := by decide +kernel
theorem dX10_state_27 : decode cX10_state 27 = .ok (.ifnull 16, 3) := by decide +kernel
theorem dX10_state_30 : decode cX10_state 30 = .ok (.iload_n 3, 1) := by decide +kernel
theorem dX10_state_31 : decode cX10_state 31 = .ok (.ifCond .lt 12, 3) := by decide +kernel
theorem dX10_state_34 : decode cX10_state 34 = .ok (.iload_n 3, 1) := by decide +kernel
theorem dX10_state_35 : decode cX10_state 35 = .ok (.aload 6, 2) := by decide +kernel
theorem dX10_state_37 : decode cX10_state 37 = .ok (.getfield 146, 3) := by decide +kernel
theorem dX10_state_40 : decode cX10_state 40 = .ok (.if_icmp .le 6, 3) := by decide +kernel
theorem dX10_state_43 : decode cX10_state 43 = .ok (.bipush (-2), 2) := by decide +kernel
theorem dX10_state_45 : decode cX10_state 45 = .ok (.ireturn, 1) := by decide +kernel
theorem dX10_state_46 : decode cX10_state 46 = .ok (.aload_n 0, 1) := by decide +kernel
theorem dX10_state_47 : decode cX10_state 47 = .ok (.getfield 41, 3) := by decide +kernel
theorem dX10_state_50 : decode cX10_state 50 = .ok (.aload 5, 2) := by decide +kernel
theorem dX10_state_52 : decode cX10_state 52 = .ok (.aload 6, 2) := by decide +kernel
theorem dX10_state_54 : decode cX10_state 54 = .ok (.iload_n 3, 1) := by decide +kernel
theorem dX10_state_55 : decode cX10_state 55 = .ok (.invokevirtual 149, 3) := by decide +kernel
theorem dX10_state_58 : decode cX10_state 58 = .ok (.iload_n 3, 1) := by decide +kernel
theorem dX10_state_59 : decode cX10_state 59 = .ok (.if_icmp .ge 8, 3) := by decide +kernel
theorem dX10_state_62 : decode cX10_state 62 = .ok (.bipush (-2), 2) := by decide +kernel
theorem dX10_state_64 : decode cX10_state 64 = .ok (.goto 12, 3) := by decide +kernel
theorem dX10_state_67 : decode cX10_state 67 = .ok (.aload_n 0, 1) := by decide +kernel
theorem dX10_state_68 : decode cX10_state 68 = .ok (.getfield 41, 3) := by decide +kernel
theorem dX10_state_71 : decode cX10_state 71 = .ok (.iload 4, 2) := by decide +kernel
theorem dX10_state_73 : decode cX10_state 73 = .ok (.invokevirtual 153, 3) := by decide +kernel
theorem dX10_state_76 : decode cX10_state 76 = .ok (.ireturn, 1) := by decide +kernel
theorem dX10_rota_0 : decode cX10_rota 0 = .ok (.aload_n 0, 1) := by decide +kernel
theorem dX10_rota_1 : decode cX10_rota 1 = .ok (.getfield 10, 3) := by decide +kernel
theorem dX10_rota_4 : decode cX10_rota 4 = .ok (.iload_n 1, 1) := by decide +kernel
theorem dX10_rota_5 : decode cX10_rota 5 = .ok (.invokevirtual 113, 3) := by decide +kernel
theorem dX10_rota_8 : decode cX10_rota 8 = .ok (.astore_n 3, 1) := by decide +kernel
theorem dX10_rota_9 : decode cX10_rota 9 = .ok (.aload_n 3, 1) := by decide +kernel
theorem dX10_rota_10 : decode cX10_rota 10 = .ok (.ifnull 22, 3) := by decide +kernel
theorem dX10_rota_13 : decode cX10_rota 13 = .ok (.aload_n 3, 1) := by decide +kernel
theorem dX10_rota_14 : decode cX10_rota 14 = .ok (.iload_n 2, 1) := by decide +kernel
theorem dX10_rota_15 : decode cX10_rota 15 = .ok (.invokevirtual 156, 3) := by decide +kernel
theorem dX10_rota_18 : decode cX10_rota 18 = .ok (.ifCond .eq 14, 3) := by decide +kernel
theorem dX10_rota_21 : decode cX10_rota 21 = .ok (.aload_n 0, 1) := by decide +kernel
theorem dX10_rota_22 : decode cX10_rota 22 = .ok (.getfield 34, 3) := by decide +kernel
theorem dX10_rota_25 : decode cX10_rota 25 = .ok (.aload_n 3, 1) := by decide +kernel
theorem dX10_rota_26 : decode cX10_rota 26 = .ok (.invokevirtual 160, 3) := by decide +kernel
theorem dX10_rota_29 : decode cX10_rota 29 = .ok (.ifCond .ne 5, 3) := by decide +kernel
theorem dX10_rota_32 : decode cX10_rota 32 = .ok (.iconst (-1), 1) := by decide +kernel
theorem dX10_rota_33 : decode cX10_rota 33 = .ok (.ireturn, 1) := by decide +kernel
theorem dX10_rota_34 : decode cX10_rota 34 = .ok (.aload_n 0, 1) := by decide +kernel
theorem dX10_rota_35 : decode cX10_rota 35 = .ok (.getfield 34, 3) := by decide +kernel
theorem dX10_rota_38 : decode cX10_rota 38 = .ok (.iload_n 2, 1) := by decide +kernel
theorem dX10_rota_39 : decode cX10_rota 39 = .ok (.invokevirtual 164, 3) := by decide +kernel
theorem dX10_rota_42 : decode cX10_rota 42 = .ok (.ireturn, 1) := by decide +kernel
theorem dX10_few_0 : decode cX10_few 0 = .ok (.aload_n 0, 1) := by decide +kernel
theorem dX10_few_1 : decode cX10_few 1 = .ok (.getfield 10, 3) := by decide +kernel
theorem dX10_few_4 : decode cX10_few 4 = .ok (.iload_n 1, 1) := by decide +kernel
theorem dX10_few_5 : decode cX10_few 5 = .ok (.invokevirtual 113, 3) := by decide +kernel
theorem dX10_few_8 : decode cX10_few 8 = .ok (.astore_n 3, 1) := by decide +kernel
theorem dX10_few_9 : decode cX10_few 9 = .ok (.aload_n 3, 1) := by decide +kernel
theorem dX10_few_10 : decode cX10_few 10 = .ok (.ifnonnull 5, 3) := by decide +kernel
theorem dX10_few_13 : decode cX10_few 13 = .ok (.iconst (-1), 1) := by decide +kernel
theorem dX10_few_14 : decode cX10_few 14 = .ok (.ireturn, 1) := by decide +kernel
theorem dX10_few_15 : decode cX10_few 15 = .ok (.aload_n 0, 1) := by decide +kernel
theorem dX10_few_16 : decode cX10_few 16 = .ok (.getfield 34, 3) := by decide +kernel
theorem dX10_few_19 : decode cX10_few 19 = .ok (.aload_n 3, 1) := by decide +kernel
theorem dX10_few_20 : decode cX10_few 20 = .ok (.invokevirtual 167, 3) := by decide +kernel
theorem dX10_few_23 : decode cX10_few 23 = .ok (.istore 4, 2) := by decide +kernel
theorem dX10_few_25 : decode cX10_few 25 = .ok (.iload 4, 2) := by decide +kernel
theorem dX10_few_27 : decode cX10_few 27 = .ok (.iconst (-1), 1) := by decide +kernel
theorem dX10_few_28 : decode cX10_few 28 = .ok (.if_icmp .eq 7, 3) := by decide +kernel
theorem dX10_few_31 : decode cX10_few 31 = .ok (.iload_n 2, 1) := by decide +kernel
theorem dX10_few_32 : decode cX10_few 32 = .ok (.ifCond .eq 8, 3) := by decide +kernel
theorem dX10_few_35 : decode cX10_few 35 = .ok (.iload 4, 2) := by decide +kernel
theorem dX10_few_37 : decode cX10_few 37 = .ok (.goto 8, 3) := by decide +kernel
theorem dX10_few_40 : decode cX10_few 40 = .ok (.iload 4, 2) := by decide +kernel
theorem dX10_few_42 : decode cX10_few 42 = .ok (.invokestatic 171, 3) := by decide +kernel
theorem dX10_few_45 : decode cX10_few 45 = .ok (.ireturn, 1) := by decide +kernel
theorem dX10_far_0 : decode cX10_far 0 = .ok (.aload_n 0, 1) := by decide +kernel
theorem dX10_far_1 : decode cX10_far 1 = .ok (.getfield 10, 3) := by decide +kernel
theorem dX10_far_4 : decode cX10_far 4 = .ok (.iload_n 1, 1) := by decide +kernel
theorem dX10_far_5 : decode cX10_far 5 = .ok (.invokevirtual 113, 3) := by decide +kernel
theorem dX10_far_8 : decode cX10_far 8 = .ok (.astore_n 3, 1) := by decide +kernel
theorem dX10_far_9 : decode cX10_far 9 = .ok (.aload_n 3, 1) := by decide +kernel
theorem dX10_far_10 : decode cX10_far 10 = .ok (.ifnonnull 5, 3) := by decide +kernel
theorem dX10_far_13 : decode cX10_far 13 = .ok (.iconst (-1), 1) := by decide +kernel
theorem dX10_far_14 : decode cX10_far 14 = .ok (.ireturn, 1) := by decide +kernel
theorem dX10_far_15 : decode cX10_far 15 = .ok (.iload_n 2, 1) := by decide +kernel
theorem dX10_far_16 : decode cX10_far 16 = .ok (.ifCond .eq 10, 3) := by decide +kernel
theorem dX10_far_19 : decode cX10_far 19 = .ok (.aload_n 3, 1) := by decide +kernel
theorem dX10_far_20 : decode cX10_far 20 = .ok (.invokevirtual 176, 3) := by decide +kernel
theorem dX10_far_23 : decode cX10_far 23 = .ok (.goto 12, 3) := by decide +kernel
theorem dX10_far_26 : decode cX10_far 26 = .ok (.aload_n 0, 1) := by decide +kernel
theorem dX10_far_27 : decode cX10_far 27 = .ok (.getfield 34, 3) := by decide +kernel
theorem dX10_far_30 : decode cX10_far 30 = .ok (.aload_n 3, 1) := by decide +kernel
theorem dX10_far_31 : decode cX10_far 31 = .ok (.iconst 0, 1) := by decide +kernel
theorem dX10_far_32 : decode cX10_far 32 = .ok (.invokevirtual 180, 3) := by decide +kernel
theorem dX10_far_35 : decode cX10_far 35 = .ok (.ireturn, 1) := by decide +kernel
theorem dX10_wakes_0 : decode cX10_wakes 0 = .ok (.aload_n 0, 1) := by decide +kernel
theorem dX10_wakes_1 : decode cX10_wakes 1 = .ok (.getfield 10, 3) := by decide +kernel
theorem dX10_wakes_4 : decode cX10_wakes 4 = .ok (.iload_n 1, 1) := by decide +kernel
theorem dX10_wakes_5 : decode cX10_wakes 5 = .ok (.invokevirtual 113, 3) := by decide +kernel
theorem dX10_wakes_8 : decode cX10_wakes 8 = .ok (.astore_n 3, 1) := by decide +kernel
theorem dX10_wakes_9 : decode cX10_wakes 9 = .ok (.aload_n 3, 1) := by decide +kernel
theorem dX10_wakes_10 : decode cX10_wakes 10 = .ok (.ifnonnull 7, 3) := by decide +kernel
theorem dX10_wakes_13 : decode cX10_wakes 13 = .ok (.ldc2_w 184, 3) := by decide +kernel
theorem dX10_wakes_16 : decode cX10_wakes 16 = .ok (.lreturn, 1) := by decide +kernel
theorem dX10_wakes_17 : decode cX10_wakes 17 = .ok (.aload_n 0, 1) := by decide +kernel
theorem dX10_wakes_18 : decode cX10_wakes 18 = .ok (.getfield 48, 3) := by decide +kernel
theorem dX10_wakes_21 : decode cX10_wakes 21 = .ok (.aload_n 3, 1) := by decide +kernel
theorem dX10_wakes_22 : decode cX10_wakes 22 = .ok (.invokevirtual 186, 3) := by decide +kernel
theorem dX10_wakes_25 : decode cX10_wakes 25 = .ok (.aload_n 0, 1) := by decide +kernel
theorem dX10_wakes_26 : decode cX10_wakes 26 = .ok (.getfield 48, 3) := by decide +kernel
theorem dX10_wakes_29 : decode cX10_wakes 29 = .ok (.invokevirtual 190, 3) := by decide +kernel
theorem dX10_wakes_32 : decode cX10_wakes 32 = .ok (.iload_n 2, 1) := by decide +kernel
theorem dX10_wakes_33 : decode cX10_wakes 33 = .ok (.invokestatic 194, 3) := by decide +kernel
theorem dX10_wakes_36 : decode cX10_wakes 36 = .ok (.lreturn, 1) := by decide +kernel
theorem dX10_change_0 : decode cX10_change 0 = .ok (.aload_n 0, 1) := by decide +kernel
theorem dX10_change_1 : decode cX10_change 1 = .ok (.getfield 10, 3) := by decide +kernel
theorem dX10_change_4 : decode cX10_change 4 = .ok (.iload_n 1, 1) := by decide +kernel
theorem dX10_change_5 : decode cX10_change 5 = .ok (.invokevirtual 113, 3) := by decide +kernel
theorem dX10_change_8 : decode cX10_change 8 = .ok (.astore_n 2, 1) := by decide +kernel
theorem dX10_change_9 : decode cX10_change 9 = .ok (.aload_n 2, 1) := by decide +kernel
theorem dX10_change_10 : decode cX10_change 10 = .ok (.ifnonnull 5, 3) := by decide +kernel
theorem dX10_change_13 : decode cX10_change 13 = .ok (.iconst (-1), 1) := by decide +kernel
theorem dX10_change_14 : decode cX10_change 14 = .ok (.ireturn, 1) := by decide +kernel
theorem dX10_change_15 : decode cX10_change 15 = .ok (.aload_n 0, 1) := by decide +kernel
theorem dX10_change_16 : decode cX10_change 16 = .ok (.getfield 48, 3) := by decide +kernel
theorem dX10_change_19 : decode cX10_change 19 = .ok (.aload_n 2, 1) := by decide +kernel
theorem dX10_change_20 : decode cX10_change 20 = .ok (.invokevirtual 186, 3) := by decide +kernel
theorem dX10_change_23 : decode cX10_change 23 = .ok (.aload_n 0, 1) := by decide +kernel
theorem dX10_change_24 : decode cX10_change 24 = .ok (.getfield 48, 3) := by decide +kernel
theorem dX10_change_27 : decode cX10_change 27 = .ok (.invokevirtual 198, 3) := by decide +kernel
theorem dX10_change_30 : decode cX10_change 30 = .ok (.ireturn, 1) := by decide +kernel
theorem dX10_tussle_0 : decode cX10_tussle 0 = .ok (.aload_n 0, 1) := by decide +kernel
theorem dX10_tussle_1 : decode cX10_tussle 1 = .ok (.getfield 10, 3) := by decide +kernel
theorem dX10_tussle_4 : decode cX10_tussle 4 = .ok (.iload_n 1, 1) := by decide +kernel
theorem dX10_tussle_5 : decode cX10_tussle 5 = .ok (.invokevirtual 113, 3) := by decide +kernel
theorem dX10_tussle_8 : decode cX10_tussle 8 = .ok (.astore 4, 2) := by decide +kernel
theorem dX10_tussle_10 : decode cX10_tussle 10 = .ok (.aload 4, 2) := by decide +kernel
theorem dX10_tussle_12 : decode cX10_tussle 12 = .ok (.ifnull 12, 3) := by decide +kernel
theorem dX10_tussle_15 : decode cX10_tussle 15 = .ok (.iload_n 2, 1) := by decide +kernel
theorem dX10_tussle_16 : decode cX10_tussle 16 = .ok (.ifCond .lt 8, 3) := by decide +kernel
theorem dX10_tussle_19 : decode cX10_tussle 19 = .ok (.iload_n 2, 1) := by decide +kernel
theorem dX10_tussle_20 : decode cX10_tussle 20 = .ok (.iconst 4, 1) := by decide +kernel
theorem dX10_tussle_21 : decode cX10_tussle 21 = .ok (.if_icmp .le 7, 3) := by decide +kernel
theorem dX10_tussle_24 : decode cX10_tussle 24 = .ok (.sipush (-999), 3) := by decide +kernel
theorem dX10_tussle_27 : decode cX10_tussle 27 = .ok (.ireturn, 1) := by decide +kernel
theorem dX10_tussle_28 : decode cX10_tussle 28 = .ok (.aload_n 0, 1) := by decide +kernel
theorem dX10_tussle_29 : decode cX10_tussle 29 = .ok (.getfield 55, 3) := by decide +kernel
theorem dX10_tussle_32 : decode cX10_tussle 32 = .ok (.aload 4, 2) := by decide +kernel
theorem dX10_tussle_34 : decode cX10_tussle 34 = .ok (.iload_n 2, 1) := by decide +kernel
theorem dX10_tussle_35 : decode cX10_tussle 35 = .ok (.invokevirtual 201, 3) := by decide +kernel
theorem dX10_tussle_38 : decode cX10_tussle 38 = .ok (.iload_n 3, 1) := by decide +kernel
theorem dX10_tussle_39 : decode cX10_tussle 39 = .ok (.ifCond .eq 13, 3) := by decide +kernel
theorem dX10_tussle_42 : decode cX10_tussle 42 = .ok (.aload_n 0, 1) := by decide +kernel
theorem dX10_tussle_43 : decode cX10_tussle 43 = .ok (.getfield 55, 3) := by decide +kernel
theorem dX10_tussle_46 : decode cX10_tussle 46 = .ok (.getfield 204, 3) := by decide +kernel
theorem dX10_tussle_49 : decode cX10_tussle 49 = .ok (.goto 10, 3) := by decide +kernel
theorem dX10_tussle_52 : decode cX10_tussle 52 = .ok (.aload_n 0, 1) := by decide +kernel
theorem dX10_tussle_53 : decode cX10_tussle 53 = .ok (.getfield 55, 3) := by decide +kernel
theorem dX10_tussle_56 : decode cX10_tussle 56 = .ok (.getfield 207, 3) := by decide +kernel
theorem dX10_tussle_59 : decode cX10_tussle 59 = .ok (.ireturn, 1) := by decide +kernel
theorem dX10_tunes_0 : decode cX10_tunes 0 = .ok (.aload_n 0, 1) := by decide +kernel
theorem dX10_tunes_1 : decode cX10_tunes 1 = .ok (.getfield 10, 3) := by decide +kernel
theorem dX10_tunes_4 : decode cX10_tunes 4 = .ok (.iload_n 1, 1) := by decide +kernel
theorem dX10_tunes_5 : decode cX10_tunes 5 = .ok (.invokevirtual 113, 3) := by decide +kernel
theorem dX10_tunes_8 : decode cX10_tunes 8 = .ok (.astore_n 3, 1) := by decide +kernel
theorem dX10_tunes_9 : decode cX10_tunes 9 = .ok (.aload_n 3, 1) := by decide +kernel
theorem dX10_tunes_10 : decode cX10_tunes 10 = .ok (.ifnonnull 6, 3) := by decide +kernel
theorem dX10_tunes_13 : decode cX10_tunes 13 = .ok (.bipush (-2), 2) := by decide +kernel
theorem dX10_tunes_15 : decode cX10_tunes 15 = .ok (.ireturn, 1) := by decide +kernel
theorem dX10_tunes_16 : decode cX10_tunes 16 = .ok (.aload_n 0, 1) := by decide +kernel
theorem dX10_tunes_17 : decode cX10_tunes 17 = .ok (.getfield 62, 3) := by decide +kernel
theorem dX10_tunes_20 : decode cX10_tunes 20 = .ok (.aload_n 3, 1) := by decide +kernel
theorem dX10_tunes_21 : decode cX10_tunes 21 = .ok (.invokevirtual 210, 3) := by decide +kernel
theorem dX10_tunes_24 : decode cX10_tunes 24 = .ok (.iload_n 2, 1) := by decide +kernel
theorem dX10_tunes_25 : decode cX10_tunes 25 = .ok (.ifCond .ne 11, 3) := by decide +kernel
theorem dX10_tunes_28 : decode cX10_tunes 28 = .ok (.aload_n 0, 1) := by decide +kernel
theorem dX10_tunes_29 : decode cX10_tunes 29 = .ok (.getfield 62, 3) := by decide +kernel
theorem dX10_tunes_32 : decode cX10_tunes 32 = .ok (.invokevirtual 211, 3) := by decide +kernel
theorem dX10_tunes_35 : decode cX10_tunes 35 = .ok (.ireturn, 1) := by decide +kernel
theorem dX10_tunes_36 : decode cX10_tunes 36 = .ok (.iload_n 2, 1) := by decide +kernel
theorem dX10_tunes_37 : decode cX10_tunes 37 = .ok (.bipush 10, 2) := by decide +kernel
theorem dX10_tunes_39 : decode cX10_tunes 39 = .ok (.if_icmp .lt 9, 3) := by decide +kernel
theorem dX10_tunes_42 : decode cX10_tunes 42 = .ok (.iload_n 2, 1) := by decide +kernel
theorem dX10_tunes_43 : decode cX10_tunes 43 = .ok (.bipush 30, 2) := by decide +kernel
theorem dX10_tunes_45 : decode cX10_tunes 45 = .ok (.if_icmp .lt 6, 3) := by decide +kernel
theorem dX10_tunes_48 : decode cX10_tunes 48 = .ok (.bipush (-2), 2) := by decide +kernel
theorem dX10_tunes_50 : decode cX10_tunes 50 = .ok (.ireturn, 1) := by decide +kernel
theorem dX10_tunes_51 : decode cX10_tunes 51 = .ok (.iload_n 2, 1) := by decide +kernel
theorem dX10_tunes_52 : decode cX10_tunes 52 = .ok (.bipush 10, 2) := by decide +kernel
theorem dX10_tunes_54 : decode cX10_tunes 54 = .ok (.irem, 1) := by decide +kernel
theorem dX10_tunes_55 : decode cX10_tunes 55 = .ok (.istore 4, 2) := by decide +kernel
theorem dX10_tunes_57 : decode cX10_tunes 57 = .ok (.iload 4, 2) := by decide +kernel
theorem dX10_tunes_59 : decode cX10_tunes 59 = .ok (.aload_n 3, 1) := by decide +kernel
theorem dX10_tunes_60 : decode cX10_tunes 60 = .ok (.getfield 131, 3) := by decide +kernel
theorem dX10_tunes_63 : decode cX10_tunes 63 = .ok (.invokestatic 171, 3) := by decide +kernel
theorem dX10_tunes_66 : decode cX10_tunes 66 = .ok (.if_icmp .lt 6, 3) := by decide +kernel
theorem dX10_tunes_69 : decode cX10_tunes 69 = .ok (.bipush (-2), 2) := by decide +kernel
theorem dX10_tunes_71 : decode cX10_tunes 71 = .ok (.ireturn, 1) := by decide +kernel
theorem dX10_tunes_72 : decode cX10_tunes 72 = .ok (.iload_n 2, 1) := by decide +kernel
theorem dX10_tunes_73 : decode cX10_tunes 73 = .ok (.bipush 20, 2) := by decide +kernel
theorem dX10_tunes_75 : decode cX10_tunes 75 = .ok (.if_icmp .ge 15, 3) := by decide +kernel
theorem dX10_tunes_78 : decode cX10_tunes 78 = .ok (.aload_n 0, 1) := by decide +kernel
theorem dX10_tunes_79 : decode cX10_tunes 79 = .ok (.getfield 62, 3) := by decide +kernel
theorem dX10_tunes_82 : decode cX10_tunes 82 = .ok (.iload 4, 2) := by decide +kernel
theorem dX10_tunes_84 : decode cX10_tunes 84 = .ok (.invokevirtual 213, 3) := by decide +kernel
theorem dX10_tunes_87 : decode cX10_tunes 87 = .ok (.goto 12, 3) := by decide +kernel
theorem dX10_tunes_90 : decode cX10_tunes 90 = .ok (.aload_n 0, 1) := by decide +kernel
theorem dX10_tunes_91 : decode cX10_tunes 91 = .ok (.getfield 62, 3) := by decide +kernel
theorem dX10_tunes_94 : decode cX10_tunes 94 = .ok (.iload 4, 2) := by decide +kernel
theorem dX10_tunes_96 : decode cX10_tunes 96 = .ok (.invokevirtual 216, 3) := by decide +kernel
theorem dX10_tunes_99 : decode cX10_tunes 99 = .ok (.ireturn, 1) := by decide +kernel
theorem dX10_fact_0 : decode cX10_fact 0 = .ok (.aload_n 0, 1) := by decide +kernel
theorem dX10_fact_1 : decode cX10_fact 1 = .ok (.getfield 10, 3) := by decide +kernel
theorem dX10_fact_4 : decode cX10_fact 4 = .ok (.iload_n 1, 1) := by decide +kernel
theorem dX10_fact_5 : decode cX10_fact 5 = .ok (.invokevirtual 219, 3) := by decide +kernel
theorem dX10_fact_8 : decode cX10_fact 8 = .ok (.iload_n 2, 1) := by decide +kernel
theorem dX10_fact_9 : decode cX10_fact 9 = .ok (.iload_n 3, 1) := by decide +kernel
theorem dX10_fact_10 : decode cX10_fact 10 = .ok (.invokestatic 142, 3) := by decide +kernel
theorem dX10_fact_13 : decode cX10_fact 13 = .ok (.ireturn, 1) := by decide +kernel
theorem dX10_dawns_0 : decode cX10_dawns 0 = .ok (.aload_n 1, 1) := by decide +kernel
theorem dX10_dawns_1 : decode cX10_dawns 1 = .ok (.ifnull 29, 3) := by decide +kernel
theorem dX10_dawns_4 : decode cX10_dawns 4 = .ok (.aload_n 2, 1) := by decide +kernel
theorem dX10_dawns_5 : decode cX10_dawns 5 = .ok (.ifnull 25, 3) := by decide +kernel
theorem dX10_dawns_8 : decode cX10_dawns 8 = .ok (.aload_n 2, 1) := by decide +kernel
theorem dX10_dawns_9 : decode cX10_dawns 9 = .ok (.aload_n 1, 1) := by decide +kernel
theorem dX10_dawns_10 : decode cX10_dawns 10 = .ok (.getfield 117, 3) := by decide +kernel
theorem dX10_dawns_13 : decode cX10_dawns 13 = .ok (.invokevirtual 345, 3) := by decide +kernel
theorem dX10_dawns_16 : decode cX10_dawns 16 = .ok (.ifCond .eq 14, 3) := by decide +kernel
theorem dX10_dawns_19 : decode cX10_dawns 19 = .ok (.aload_n 0, 1) := by decide +kernel
theorem dX10_dawns_20 : decode cX10_dawns 20 = .ok (.getfield 34, 3) := by decide +kernel
theorem dX10_dawns_23 : decode cX10_dawns 23 = .ok (.aload_n 1, 1) := by decide +kernel
theorem dX10_dawns_24 : decode cX10_dawns 24 = .ok (.invokevirtual 160, 3) := by decide +kernel
theorem dX10_dawns_27 : decode cX10_dawns 27 = .ok (.ifCond .ne 5, 3) := by decide +kernel
theorem dX10_dawns_30 : decode cX10_dawns 30 = .ok (.iconst 0, 1) := by decide +kernel
theorem dX10_dawns_31 : decode cX10_dawns 31 = .ok (.ireturn, 1) := by decide +kernel
theorem dX10_dawns_32 : decode cX10_dawns 32 = .ok (.aload_n 0, 1) := by decide +kernel
theorem dX10_dawns_33 : decode cX10_dawns 33 = .ok (.getfield 69, 3) := by decide +kernel
theorem dX10_dawns_36 : decode cX10_dawns 36 = .ok (.aload_n 1, 1) := by decide +kernel
theorem dX10_dawns_37 : decode cX10_dawns 37 = .ok (.aload_n 2, 1) := by decide +kernel
theorem dX10_dawns_38 : decode cX10_dawns 38 = .ok (.aload_n 0, 1) := by decide +kernel
theorem dX10_dawns_39 : decode cX10_dawns 39 = .ok (.getfield 34, 3) := by decide +kernel
theorem dX10_dawns_42 : decode cX10_dawns 42 = .ok (.invokevirtual 348, 3) := by decide +kernel
theorem dX10_dawns_45 : decode cX10_dawns 45 = .ok (.iconst 1, 1) := by decide +kernel
theorem dX10_dawns_46 : decode cX10_dawns 46 = .ok (.ireturn, 1) := by decide +kernel
theorem dX10_fits_0 : decode cX10_fits 0 = .ok (.aload_n 0, 1) := by decide +kernel
theorem dX10_fits_1 : decode cX10_fits 1 = .ok (.getfield 10, 3) := by decide +kernel
theorem dX10_fits_4 : decode cX10_fits 4 = .ok (.iload_n 1, 1) := by decide +kernel
theorem dX10_fits_5 : decode cX10_fits 5 = .ok (.invokevirtual 113, 3) := by decide +kernel
theorem dX10_fits_8 : decode cX10_fits 8 = .ok (.astore 4, 2) := by decide +kernel
theorem dX10_fits_10 : decode cX10_fits 10 = .ok (.aload_n 0, 1) := by decide +kernel
theorem dX10_fits_11 : decode cX10_fits 11 = .ok (.aload 4, 2) := by decide +kernel
theorem dX10_fits_13 : decode cX10_fits 13 = .ok (.aload_n 0, 1) := by decide +kernel
theorem dX10_fits_14 : decode cX10_fits 14 = .ok (.getfield 10, 3) := by decide +kernel
theorem dX10_fits_17 : decode cX10_fits 17 = .ok (.iload_n 2, 1) := by decide +kernel
theorem dX10_fits_18 : decode cX10_fits 18 = .ok (.invokevirtual 219, 3) := by decide +kernel
theorem dX10_fits_21 : decode cX10_fits 21 = .ok (.invokevirtual 222, 3) := by decide +kernel
theorem dX10_fits_24 : decode cX10_fits 24 = .ok (.ifCond .ne 6, 3) := by decide +kernel
theorem dX10_fits_27 : decode cX10_fits 27 = .ok (.bipush (-2), 2) := by decide +kernel
theorem dX10_fits_29 : decode cX10_fits 29 = .ok (.ireturn, 1) := by decide +kernel
theorem dX10_fits_30 : decode cX10_fits 30 = .ok (.iload_n 3, 1) := by decide +kernel
theorem dX10_fits_31 : decode cX10_fits 31 = .ok (.tableswitch 76 0 2 #[25, 36, 66], 25) := by decide +kernel
theorem dX10_fits_56 : decode cX10_fits 56 = .ok (.aload_n 0, 1) := by decide +kernel
theorem dX10_fits_57 : decode cX10_fits 57 = .ok (.getfield 69, 3) := by decide +kernel
theorem dX10_fits_60 : decode cX10_fits 60 = .ok (.getfield 226, 3) := by decide +kernel
theorem dX10_fits_63 : decode cX10_fits 63 = .ok (.invokestatic 171, 3) := by decide +kernel
theorem dX10_fits_66 : decode cX10_fits 66 = .ok (.ireturn, 1) := by decide +kernel
theorem dX10_fits_67 : decode cX10_fits 67 = .ok (.aload_n 0, 1) := by decide +kernel
theorem dX10_fits_68 : decode cX10_fits 68 = .ok (.getfield 69, 3) := by decide +kernel
theorem dX10_fits_71 : decode cX10_fits 71 = .ok (.getfield 226, 3) := by decide +kernel
theorem dX10_fits_74 : decode cX10_fits 74 = .ok (.invokestatic 171, 3) := by decide +kernel
theorem dX10_fits_77 : decode cX10_fits 77 = .ok (.iconst 1, 1) := by decide +kernel
theorem dX10_fits_78 : decode cX10_fits 78 = .ok (.if_icmp .ne 17, 3) := by decide +kernel
theorem dX10_fits_81 : decode cX10_fits 81 = .ok (.aload_n 0, 1) := by decide +kernel
theorem dX10_fits_82 : decode cX10_fits 82 = .ok (.getfield 69, 3) := by decide +kernel
theorem dX10_fits_85 : decode cX10_fits 85 = .ok (.getfield 226, 3) := by decide +kernel
theorem dX10_fits_88 : decode cX10_fits 88 = .ok (.iconst 0, 1) := by decide +kernel
theorem dX10_fits_89 : decode cX10_fits 89 = .ok (.invokestatic 229, 3) := by decide +kernel
theorem dX10_fits_92 : decode cX10_fits 92 = .ok (.goto 4, 3) := by decide +kernel
theorem dX10_fits_95 : decode cX10_fits 95 = .ok (.iconst (-1), 1) := by decide +kernel
theorem dX10_fits_96 : decode cX10_fits 96 = .ok (.ireturn, 1) := by decide +kernel
theorem dX10_fits_97 : decode cX10_fits 97 = .ok (.aload_n 0, 1) := by decide +kernel
theorem dX10_fits_98 : decode cX10_fits 98 = .ok (.getfield 69, 3) := by decide +kernel
theorem dX10_fits_101 : decode cX10_fits 101 = .ok (.aload 4, 2) := by decide +kernel
theorem dX10_fits_103 : decode cX10_fits 103 = .ok (.invokevirtual 232, 3) := by decide +kernel
theorem dX10_fits_106 : decode cX10_fits 106 = .ok (.ireturn, 1) := by decide +kernel
theorem dX10_fits_107 : decode cX10_fits 107 = .ok (.iload_n 3, 1) := by decide +kernel
theorem dX10_fits_108 : decode cX10_fits 108 = .ok (.bipush 10, 2) := by decide +kernel
theorem dX10_fits_110 : decode cX10_fits 110 = .ok (.if_icmp .ge 7, 3) := by decide +kernel
theorem dX10_fits_113 : decode cX10_fits 113 = .ok (.iconst (-1), 1) := by decide +kernel
theorem dX10_fits_114 : decode cX10_fits 114 = .ok (.goto 17, 3) := by decide +kernel
theorem dX10_fits_117 : decode cX10_fits 117 = .ok (.aload_n 0, 1) := by decide +kernel
theorem dX10_fits_118 : decode cX10_fits 118 = .ok (.getfield 69, 3) := by decide +kernel
theorem dX10_fits_121 : decode cX10_fits 121 = .ok (.getfield 226, 3) := by decide +kernel
theorem dX10_fits_124 : decode cX10_fits 124 = .ok (.iload_n 3, 1) := by decide +kernel
theorem dX10_fits_125 : decode cX10_fits 125 = .ok (.bipush 10, 2) := by decide +kernel
theorem dX10_fits_127 : decode cX10_fits 127 = .ok (.isub, 1) := by decide +kernel
theorem dX10_fits_128 : decode cX10_fits 128 = .ok (.invokestatic 229, 3) := by decide +kernel
theorem dX10_fits_131 : decode cX10_fits 131 = .ok (.istore 5, 2) := by decide +kernel
theorem dX10_fits_133 : decode cX10_fits 133 = .ok (.iload 5, 2) := by decide +kernel
theorem dX10_fits_135 : decode cX10_fits 135 = .ok (.iconst (-1), 1) := by decide +kernel
theorem dX10_fits_136 : decode cX10_fits 136 = .ok (.if_icmp .ne 8, 3) := by decide +kernel
theorem dX10_fits_139 : decode cX10_fits 139 = .ok (.bipush (-2), 2) := by decide +kernel
theorem dX10_fits_141 : decode cX10_fits 141 = .ok (.goto 5, 3) := by decide +kernel
theorem dX10_fits_144 : decode cX10_fits 144 = .ok (.iload 5, 2) := by decide +kernel
theorem dX10_fits_146 : decode cX10_fits 146 = .ok (.ireturn, 1) := by decide +kernel
theorem dX10_drawn_0 : decode cX10_drawn 0 = .ok (.aload_n 0, 1) := by decide +kernel
theorem dX10_drawn_1 : decode cX10_drawn 1 = .ok (.getfield 10, 3) := by decide +kernel
theorem dX10_drawn_4 : decode cX10_drawn 4 = .ok (.iload_n 1, 1) := by decide +kernel
theorem dX10_drawn_5 : decode cX10_drawn 5 = .ok (.invokevirtual 113, 3) := by decide +kernel
theorem dX10_drawn_8 : decode cX10_drawn 8 = .ok (.astore 5, 2) := by decide +kernel
theorem dX10_drawn_10 : decode cX10_drawn 10 = .ok (.aload 5, 2) := by decide +kernel
theorem dX10_drawn_12 : decode cX10_drawn 12 = .ok (.ifnull 13, 3) := by decide +kernel
theorem dX10_drawn_15 : decode cX10_drawn 15 = .ok (.iload_n 3, 1) := by decide +kernel
theorem dX10_drawn_16 : decode cX10_drawn 16 = .ok (.ifCond .lt 9, 3) := by decide +kernel
theorem dX10_drawn_19 : decode cX10_drawn 19 = .ok (.iload_n 3, 1) := by decide +kernel
theorem dX10_drawn_20 : decode cX10_drawn 20 = .ok (.bipush 60, 2) := by decide +kernel
theorem dX10_drawn_22 : decode cX10_drawn 22 = .ok (.if_icmp .le 6, 3) := by decide +kernel
theorem dX10_drawn_25 : decode cX10_drawn 25 = .ok (.bipush (-2), 2) := by decide +kernel
theorem dX10_drawn_27 : decode cX10_drawn 27 = .ok (.ireturn, 1) := by decide +kernel
theorem dX10_drawn_28 : decode cX10_drawn 28 = .ok (.aload_n 0, 1) := by decide +kernel
theorem dX10_drawn_29 : decode cX10_drawn 29 = .ok (.getfield 41, 3) := by decide +kernel
theorem dX10_drawn_32 : decode cX10_drawn 32 = .ok (.aload 5, 2) := by decide +kernel
theorem dX10_drawn_34 : decode cX10_drawn 34 = .ok (.iload_n 2, 1) := by decide +kernel
theorem dX10_drawn_35 : decode cX10_drawn 35 = .ok (.iload_n 3, 1) := by decide +kernel
theorem dX10_drawn_36 : decode cX10_drawn 36 = .ok (.invokevirtual 235, 3) := by decide +kernel
theorem dX10_drawn_39 : decode cX10_drawn 39 = .ok (.aload_n 0, 1) := by decide +kernel
theorem dX10_drawn_40 : decode cX10_drawn 40 = .ok (.getfield 41, 3) := by decide +kernel
theorem dX10_drawn_43 : decode cX10_drawn 43 = .ok (.iload 4, 2) := by decide +kernel
theorem dX10_drawn_45 : decode cX10_drawn 45 = .ok (.invokevirtual 153, 3) := by decide +kernel
theorem dX10_drawn_48 : decode cX10_drawn 48 = .ok (.ireturn, 1) := by decide +kernel
theorem dX10_sung_0 : decode cX10_sung 0 = .ok (.aload_n 0, 1) := by decide +kernel
theorem dX10_sung_1 : decode cX10_sung 1 = .ok (.getfield 10, 3) := by decide +kernel
theorem dX10_sung_4 : decode cX10_sung 4 = .ok (.iload_n 1, 1) := by decide +kernel
theorem dX10_sung_5 : decode cX10_sung 5 = .ok (.invokevirtual 113, 3) := by decide +kernel
theorem dX10_sung_8 : decode cX10_sung 8 = .ok (.astore 4, 2) := by decide +kernel
theorem dX10_sung_10 : decode cX10_sung 10 = .ok (.aload 4, 2) := by decide +kernel
theorem dX10_sung_12 : decode cX10_sung 12 = .ok (.ifnull 24, 3) := by decide +kernel
theorem dX10_sung_15 : decode cX10_sung 15 = .ok (.aload 4, 2) := by decide +kernel
theorem dX10_sung_17 : decode cX10_sung 17 = .ok (.iload_n 2, 1) := by decide +kernel
theorem dX10_sung_18 : decode cX10_sung 18 = .ok (.invokevirtual 239, 3) := by decide +kernel
theorem dX10_sung_21 : decode cX10_sung 21 = .ok (.ifCond .eq 15, 3) := by decide +kernel
theorem dX10_sung_24 : decode cX10_sung 24 = .ok (.aload_n 0, 1) := by decide +kernel
theorem dX10_sung_25 : decode cX10_sung 25 = .ok (.getfield 34, 3) := by decide +kernel
theorem dX10_sung_28 : decode cX10_sung 28 = .ok (.aload 4, 2) := by decide +kernel
theorem dX10_sung_30 : decode cX10_sung 30 = .ok (.invokevirtual 160, 3) := by decide +kernel
theorem dX10_sung_33 : decode cX10_sung 33 = .ok (.ifCond .ne 5, 3) := by decide +kernel
theorem dX10_sung_36 : decode cX10_sung 36 = .ok (.iconst (-1), 1) := by decide +kernel
theorem dX10_sung_37 : decode cX10_sung 37 = .ok (.ireturn, 1) := by decide +kernel
theorem dX10_sung_38 : decode cX10_sung 38 = .ok (.iload_n 3, 1) := by decide +kernel
theorem dX10_sung_39 : decode cX10_sung 39 = .ok (.ifCond .eq 14, 3) := by decide +kernel
theorem dX10_sung_42 : decode cX10_sung 42 = .ok (.aload_n 0, 1) := by decide +kernel
theorem dX10_sung_43 : decode cX10_sung 43 = .ok (.getfield 34, 3) := by decide +kernel
theorem dX10_sung_46 : decode cX10_sung 46 = .ok (.iload_n 2, 1) := by decide +kernel
theorem dX10_sung_47 : decode cX10_sung 47 = .ok (.invokevirtual 242, 3) := by decide +kernel
theorem dX10_sung_50 : decode cX10_sung 50 = .ok (.goto 11, 3) := by decide +kernel
theorem dX10_sung_53 : decode cX10_sung 53 = .ok (.aload_n 0, 1) := by decide +kernel
theorem dX10_sung_54 : decode cX10_sung 54 = .ok (.getfield 34, 3) := by decide +kernel
theorem dX10_sung_57 : decode cX10_sung 57 = .ok (.iload_n 2, 1) := by decide +kernel
theorem dX10_sung_58 : decode cX10_sung 58 = .ok (.invokevirtual 245, 3) := by decide +kernel
theorem dX10_sung_61 : decode cX10_sung 61 = .ok (.ireturn, 1) := by decide +kernel
theorem dX10_spare_0 : decode cX10_spare 0 = .ok (.aload_n 0, 1) := by decide +kernel
theorem dX10_spare_1 : decode cX10_spare 1 = .ok (.getfield 10, 3) := by decide +kernel
theorem dX10_spare_4 : decode cX10_spare 4 = .ok (.iload_n 1, 1) := by decide +kernel
theorem dX10_spare_5 : decode cX10_spare 5 = .ok (.invokevirtual 113, 3) := by decide +kernel
theorem dX10_spare_8 : decode cX10_spare 8 = .ok (.astore_n 3, 1) := by decide +kernel
theorem dX10_spare_9 : decode cX10_spare 9 = .ok (.aload_n 3, 1) := by decide +kernel
theorem dX10_spare_10 : decode cX10_spare 10 = .ok (.ifnonnull 6, 3) := by decide +kernel
theorem dX10_spare_13 : decode cX10_spare 13 = .ok (.bipush (-2), 2) := by decide +kernel
theorem dX10_spare_15 : decode cX10_spare 15 = .ok (.ireturn, 1) := by decide +kernel
theorem dX10_spare_16 : decode cX10_spare 16 = .ok (.iload_n 2, 1) := by decide +kernel
theorem dX10_spare_17 : decode cX10_spare 17 = .ok (.ifCond .ne 12, 3) := by decide +kernel
theorem dX10_spare_20 : decode cX10_spare 20 = .ok (.aload_n 0, 1) := by decide +kernel
theorem dX10_spare_21 : decode cX10_spare 21 = .ok (.getfield 34, 3) := by decide +kernel
theorem dX10_spare_24 : decode cX10_spare 24 = .ok (.aload_n 3, 1) := by decide +kernel
theorem dX10_spare_25 : decode cX10_spare 25 = .ok (.invokevirtual 248, 3) := by decide +kernel
theorem dX10_spare_28 : decode cX10_spare 28 = .ok (.ireturn, 1) := by decide +kernel
theorem dX10_spare_29 : decode cX10_spare 29 = .ok (.iload_n 2, 1) := by decide +kernel
theorem dX10_spare_30 : decode cX10_spare 30 = .ok (.iconst 1, 1) := by decide +kernel
theorem dX10_spare_31 : decode cX10_spare 31 = .ok (.if_icmp .ne 12, 3) := by decide +kernel
theorem dX10_spare_34 : decode cX10_spare 34 = .ok (.aload_n 0, 1) := by decide +kernel
theorem dX10_spare_35 : decode cX10_spare 35 = .ok (.getfield 34, 3) := by decide +kernel
theorem dX10_spare_38 : decode cX10_spare 38 = .ok (.aload_n 3, 1) := by decide +kernel
theorem dX10_spare_39 : decode cX10_spare 39 = .ok (.invokevirtual 251, 3) := by decide +kernel
theorem dX10_spare_42 : decode cX10_spare 42 = .ok (.ireturn, 1) := by decide +kernel
theorem dX10_spare_43 : decode cX10_spare 43 = .ok (.iload_n 2, 1) := by decide +kernel
theorem dX10_spare_44 : decode cX10_spare 44 = .ok (.iconst 2, 1) := by decide +kernel
theorem dX10_spare_45 : decode cX10_spare 45 = .ok (.if_icmp .ne 12, 3) := by decide +kernel
theorem dX10_spare_48 : decode cX10_spare 48 = .ok (.aload_n 0, 1) := by decide +kernel
theorem dX10_spare_49 : decode cX10_spare 49 = .ok (.getfield 34, 3) := by decide +kernel
theorem dX10_spare_52 : decode cX10_spare 52 = .ok (.aload_n 3, 1) := by decide +kernel
theorem dX10_spare_53 : decode cX10_spare 53 = .ok (.invokevirtual 254, 3) := by decide +kernel
theorem dX10_spare_56 : decode cX10_spare 56 = .ok (.ireturn, 1) := by decide +kernel
theorem dX10_spare_57 : decode cX10_spare 57 = .ok (.iload_n 2, 1) := by decide +kernel
theorem dX10_spare_58 : decode cX10_spare 58 = .ok (.bipush 10, 2) := by decide +kernel
theorem dX10_spare_60 : decode cX10_spare 60 = .ok (.if_icmp .lt 22, 3) := by decide +kernel
theorem dX10_spare_63 : decode cX10_spare 63 = .ok (.iload_n 2, 1) := by decide +kernel
theorem dX10_spare_64 : decode cX10_spare 64 = .ok (.bipush 19, 2) := by decide +kernel
theorem dX10_spare_66 : decode cX10_spare 66 = .ok (.if_icmp .gt 16, 3) := by decide +kernel
theorem dX10_spare_69 : decode cX10_spare 69 = .ok (.aload_n 0, 1) := by decide +kernel
theorem dX10_spare_70 : decode cX10_spare 70 = .ok (.getfield 34, 3) := by decide +kernel
theorem dX10_spare_73 : decode cX10_spare 73 = .ok (.aload_n 3, 1) := by decide +kernel
theorem dX10_spare_74 : decode cX10_spare 74 = .ok (.iload_n 2, 1) := by decide +kernel
theorem dX10_spare_75 : decode cX10_spare 75 = .ok (.bipush 10, 2) := by decide +kernel
theorem dX10_spare_77 : decode cX10_spare 77 = .ok (.isub, 1) := by decide +kernel
theorem dX10_spare_78 : decode cX10_spare 78 = .ok (.invokevirtual 180, 3) := by decide +kernel
theorem dX10_spare_81 : decode cX10_spare 81 = .ok (.ireturn, 1) := by decide +kernel
theorem dX10_spare_82 : decode cX10_spare 82 = .ok (.iload_n 2, 1) := by decide +kernel
theorem dX10_spare_83 : decode cX10_spare 83 = .ok (.bipush 20, 2) := by decide +kernel
theorem dX10_spare_85 : decode cX10_spare 85 = .ok (.if_icmp .lt 14, 3) := by decide +kernel
theorem dX10_spare_88 : decode cX10_spare 88 = .ok (.aload_n 3, 1) := by decide +kernel
theorem dX10_spare_89 : decode cX10_spare 89 = .ok (.iload_n 2, 1) := by decide +kernel
theorem dX10_spare_90 : decode cX10_spare 90 = .ok (.bipush 20, 2) := by decide +kernel
theorem dX10_spare_92 : decode cX10_spare 92 = .ok (.isub, 1) := by decide +kernel
theorem dX10_spare_93 : decode cX10_spare 93 = .ok (.invokevirtual 239, 3) := by decide +kernel
theorem dX10_spare_96 : decode cX10_spare 96 = .ok (.ifCond .ne 6, 3) := by decide +kernel
theorem dX10_spare_99 : decode cX10_spare 99 = .ok (.bipush (-2), 2) := by decide +kernel
theorem dX10_spare_101 : decode cX10_spare 101 = .ok (.ireturn, 1) := by decide +kernel
theorem dX10_spare_102 : decode cX10_spare 102 = .ok (.aload_n 0, 1) := by decide +kernel
theorem dX10_spare_103 : decode cX10_spare 103 = .ok (.getfield 34, 3) := by decide +kernel
theorem dX10_spare_106 : decode cX10_spare 106 = .ok (.aload_n 3, 1) := by decide +kernel
theorem dX10_spare_107 : decode cX10_spare 107 = .ok (.invokevirtual 160, 3) := by decide +kernel
theorem dX10_spare_110 : decode cX10_spare 110 = .ok (.ifCond .eq 21, 3) := by decide +kernel
theorem dX10_spare_113 : decode cX10_spare 113 = .ok (.aload_n 3, 1) := by decide +kernel
theorem dX10_spare_114 : decode cX10_spare 114 = .ok (.aload_n 0, 1) := by decide +kernel
theorem dX10_spare_115 : decode cX10_spare 115 = .ok (.getfield 34, 3) := by decide +kernel
theorem dX10_spare_118 : decode cX10_spare 118 = .ok (.iload_n 2, 1) := by decide +kernel
theorem dX10_spare_119 : decode cX10_spare 119 = .ok (.bipush 20, 2) := by decide +kernel
theorem dX10_spare_121 : decode cX10_spare 121 = .ok (.isub, 1) := by decide +kernel
theorem dX10_spare_122 : decode cX10_spare 122 = .ok (.invokevirtual 257, 3) := by decide +kernel
theorem dX10_spare_125 : decode cX10_spare 125 = .ok (.invokevirtual 260, 3) := by decide +kernel
theorem dX10_spare_128 : decode cX10_spare 128 = .ok (.goto 4, 3) := by decide +kernel
theorem dX10_spare_131 : decode cX10_spare 131 = .ok (.iconst (-1), 1) := by decide +kernel
theorem dX10_spare_132 : decode cX10_spare 132 = .ok (.ireturn, 1) := by decide +kernel
theorem dX10_ease_0 : decode cX10_ease 0 = .ok (.aload_n 0, 1) := by decide +kernel
theorem dX10_ease_1 : decode cX10_ease 1 = .ok (.getfield 10, 3) := by decide +kernel
theorem dX10_ease_4 : decode cX10_ease 4 = .ok (.iload_n 1, 1) := by decide +kernel
theorem dX10_ease_5 : decode cX10_ease 5 = .ok (.invokevirtual 113, 3) := by decide +kernel
theorem dX10_ease_8 : decode cX10_ease 8 = .ok (.astore_n 3, 1) := by decide +kernel
theorem dX10_ease_9 : decode cX10_ease 9 = .ok (.aload_n 3, 1) := by decide +kernel
theorem dX10_ease_10 : decode cX10_ease 10 = .ok (.ifnull 16, 3) := by decide +kernel
theorem dX10_ease_13 : decode cX10_ease 13 = .ok (.iload_n 2, 1) := by decide +kernel
theorem dX10_ease_14 : decode cX10_ease 14 = .ok (.iconst (-1), 1) := by decide +kernel
theorem dX10_ease_15 : decode cX10_ease 15 = .ok (.if_icmp .eq 13, 3) := by decide +kernel
theorem dX10_ease_18 : decode cX10_ease 18 = .ok (.aload_n 3, 1) := by decide +kernel
theorem dX10_ease_19 : decode cX10_ease 19 = .ok (.iload_n 2, 1) := by decide +kernel
theorem dX10_ease_20 : decode cX10_ease 20 = .ok (.invokevirtual 156, 3) := by decide +kernel
theorem dX10_ease_23 : decode cX10_ease 23 = .ok (.ifCond .ne 5, 3) := by decide +kernel
theorem dX10_ease_26 : decode cX10_ease 26 = .ok (.iconst (-1), 1) := by decide +kernel
theorem dX10_ease_27 : decode cX10_ease 27 = .ok (.ireturn, 1) := by decide +kernel
theorem dX10_ease_28 : decode cX10_ease 28 = .ok (.aload_n 0, 1) := by decide +kernel
theorem dX10_ease_29 : decode cX10_ease 29 = .ok (.getfield 34, 3) := by decide +kernel
theorem dX10_ease_32 : decode cX10_ease 32 = .ok (.aload_n 3, 1) := by decide +kernel
theorem dX10_ease_33 : decode cX10_ease 33 = .ok (.invokevirtual 263, 3) := by decide +kernel
theorem dX10_ease_36 : decode cX10_ease 36 = .ok (.istore 4, 2) := by decide +kernel
theorem dX10_ease_38 : decode cX10_ease 38 = .ok (.iload 4, 2) := by decide +kernel
theorem dX10_ease_40 : decode cX10_ease 40 = .ok (.iconst (-1), 1) := by decide +kernel
theorem dX10_ease_41 : decode cX10_ease 41 = .ok (.if_icmp .eq 8, 3) := by decide +kernel
theorem dX10_ease_44 : decode cX10_ease 44 = .ok (.iload_n 2, 1) := by decide +kernel
theorem dX10_ease_45 : decode cX10_ease 45 = .ok (.iconst (-1), 1) := by decide +kernel
theorem dX10_ease_46 : decode cX10_ease 46 = .ok (.if_icmp .ne 8, 3) := by decide +kernel
theorem dX10_ease_49 : decode cX10_ease 49 = .ok (.iload 4, 2) := by decide +kernel
theorem dX10_ease_51 : decode cX10_ease 51 = .ok (.goto 11, 3) := by decide +kernel
theorem dX10_ease_54 : decode cX10_ease 54 = .ok (.aload_n 0, 1) := by decide +kernel
theorem dX10_ease_55 : decode cX10_ease 55 = .ok (.getfield 34, 3) := by decide +kernel
theorem dX10_ease_58 : decode cX10_ease 58 = .ok (.iload_n 2, 1) := by decide +kernel
theorem dX10_ease_59 : decode cX10_ease 59 = .ok (.invokevirtual 164, 3) := by decide +kernel
theorem dX10_ease_62 : decode cX10_ease 62 = .ok (.ireturn, 1) := by decide +kernel
theorem dX10_longestClimb_0 : decode cX10_longestClimb 0 = .ok (.iconst 0, 1) := by decide +kernel
theorem dX10_longestClimb_1 : decode cX10_longestClimb 1 = .ok (.istore_n 1, 1) := by decide +kernel
theorem dX10_longestClimb_2 : decode cX10_longestClimb 2 = .ok (.iconst 0, 1) := by decide +kernel
theorem dX10_longestClimb_3 : decode cX10_longestClimb 3 = .ok (.istore_n 2, 1) := by decide +kernel
theorem dX10_longestClimb_4 : decode cX10_longestClimb 4 = .ok (.iconst 0, 1) := by decide +kernel
theorem dX10_longestClimb_5 : decode cX10_longestClimb 5 = .ok (.istore_n 3, 1) := by decide +kernel
theorem dX10_longestClimb_6 : decode cX10_longestClimb 6 = .ok (.iload_n 3, 1) := by decide +kernel
theorem dX10_longestClimb_7 : decode cX10_longestClimb 7 = .ok (.aload_n 0, 1) := by decide +kernel
theorem dX10_longestClimb_8 : decode cX10_longestClimb 8 = .ok (.getfield 122, 3) := by decide +kernel
theorem dX10_longestClimb_11 : decode cX10_longestClimb 11 = .ok (.if_icmp .ge 90, 3) := by decide +kernel
theorem dX10_longestClimb_14 : decode cX10_longestClimb 14 = .ok (.iload_n 3, 1) := by decide +kernel
theorem dX10_longestClimb_15 : decode cX10_longestClimb 15 = .ok (.bipush 8, 2) := by decide +kernel
theorem dX10_longestClimb_17 : decode cX10_longestClimb 17 = .ok (.if_icmp .ge 84, 3) := by decide +kernel
theorem dX10_longestClimb_20 : decode cX10_longestClimb 20 = .ok (.iload_n 2, 1) := by decide +kernel
theorem dX10_longestClimb_21 : decode cX10_longestClimb 21 = .ok (.ifCond .le 28, 3) := by decide +kernel
theorem dX10_longestClimb_24 : decode cX10_longestClimb 24 = .ok (.aload_n 0, 1) := by decide +kernel
theorem dX10_longestClimb_25 : decode cX10_longestClimb 25 = .ok (.getfield 352, 3) := by decide +kernel
theorem dX10_longestClimb_28 : decode cX10_longestClimb 28 = .ok (.iload_n 3, 1) := by decide +kernel
theorem dX10_longestClimb_29 : decode cX10_longestClimb 29 = .ok (.invokestatic 338, 3) := by decide +kernel
theorem dX10_longestClimb_32 : decode cX10_longestClimb 32 = .ok (.aload_n 0, 1) := by decide +kernel
theorem dX10_longestClimb_33 : decode cX10_longestClimb 33 = .ok (.getfield 352, 3) := by decide +kernel
theorem dX10_longestClimb_36 : decode cX10_longestClimb 36 = .ok (.iload_n 3, 1) := by decide +kernel
theorem dX10_longestClimb_37 : decode cX10_longestClimb 37 = .ok (.iconst 1, 1) := by decide +kernel
theorem dX10_longestClimb_38 : decode cX10_longestClimb 38 = .ok (.isub, 1) := by decide +kernel
theorem dX10_longestClimb_39 : decode cX10_longestClimb 39 = .ok (.invokestatic 338, 3) := by decide +kernel
theorem dX10_longestClimb_42 : decode cX10_longestClimb 42 = .ok (.if_icmp .lt 7, 3) := by decide +kernel
theorem dX10_longestClimb_45 : decode cX10_longestClimb 45 = .ok (.iconst 1, 1) := by decide +kernel
theorem dX10_longestClimb_46 : decode cX10_longestClimb 46 = .ok (.goto 4, 3) := by decide +kernel
theorem dX10_longestClimb_49 : decode cX10_longestClimb 49 = .ok (.iconst 0, 1) := by decide +kernel
theorem dX10_longestClimb_50 : decode cX10_longestClimb 50 = .ok (.istore 4, 2) := by decide +kernel
theorem dX10_longestClimb_52 : decode cX10_longestClimb 52 = .ok (.aload_n 0, 1) := by decide +kernel
theorem dX10_longestClimb_53 : decode cX10_longestClimb 53 = .ok (.iload_n 3, 1) := by decide +kernel
theorem dX10_longestClimb_54 : decode cX10_longestClimb 54 = .ok (.invokevirtual 355, 3) := by decide +kernel
theorem dX10_longestClimb_57 : decode cX10_longestClimb 57 = .ok (.ifCond .ne 7, 3) := by decide +kernel
theorem dX10_longestClimb_60 : decode cX10_longestClimb 60 = .ok (.iconst 0, 1) := by decide +kernel
theorem dX10_longestClimb_61 : decode cX10_longestClimb 61 = .ok (.goto 15, 3) := by decide +kernel
theorem dX10_longestClimb_64 : decode cX10_longestClimb 64 = .ok (.iload 4, 2) := by decide +kernel
theorem dX10_longestClimb_66 : decode cX10_longestClimb 66 = .ok (.ifCond .eq 9, 3) := by decide +kernel
theorem dX10_longestClimb_69 : decode cX10_longestClimb 69 = .ok (.iload_n 2, 1) := by decide +kernel
theorem dX10_longestClimb_70 : decode cX10_longestClimb 70 = .ok (.iconst 1, 1) := by decide +kernel
theorem dX10_longestClimb_71 : decode cX10_longestClimb 71 = .ok (.iadd, 1) := by decide +kernel
theorem dX10_longestClimb_72 : decode cX10_longestClimb 72 = .ok (.goto 4, 3) := by decide +kernel
theorem dX10_longestClimb_75 : decode cX10_longestClimb 75 = .ok (.iconst 1, 1) := by decide +kernel
theorem dX10_longestClimb_76 : decode cX10_longestClimb 76 = .ok (.istore_n 2, 1) := by decide +kernel
theorem dX10_longestClimb_77 : decode cX10_longestClimb 77 = .ok (.iload_n 2, 1) := by decide +kernel
theorem dX10_longestClimb_78 : decode cX10_longestClimb 78 = .ok (.iload_n 1, 1) := by decide +kernel
theorem dX10_longestClimb_79 : decode cX10_longestClimb 79 = .ok (.bipush 15, 2) := by decide +kernel
theorem dX10_longestClimb_81 : decode cX10_longestClimb 81 = .ok (.iand, 1) := by decide +kernel
theorem dX10_longestClimb_82 : decode cX10_longestClimb 82 = .ok (.if_icmp .le 13, 3) := by decide +kernel
theorem dX10_longestClimb_85 : decode cX10_longestClimb 85 = .ok (.iload_n 3, 1) := by decide +kernel
theorem dX10_longestClimb_86 : decode cX10_longestClimb 86 = .ok (.iload_n 2, 1) := by decide +kernel
theorem dX10_longestClimb_87 : decode cX10_longestClimb 87 = .ok (.isub, 1) := by decide +kernel
theorem dX10_longestClimb_88 : decode cX10_longestClimb 88 = .ok (.iconst 2, 1) := by decide +kernel
theorem dX10_longestClimb_89 : decode cX10_longestClimb 89 = .ok (.iadd, 1) := by decide +kernel
theorem dX10_longestClimb_90 : decode cX10_longestClimb 90 = .ok (.iconst 4, 1) := by decide +kernel
theorem dX10_longestClimb_91 : decode cX10_longestClimb 91 = .ok (.ishl, 1) := by decide +kernel
theorem dX10_longestClimb_92 : decode cX10_longestClimb 92 = .ok (.iload_n 2, 1) := by decide +kernel
theorem dX10_longestClimb_93 : decode cX10_longestClimb 93 = .ok (.ior, 1) := by decide +kernel
theorem dX10_longestClimb_94 : decode cX10_longestClimb 94 = .ok (.istore_n 1, 1) := by decide +kernel
theorem dX10_longestClimb_95 : decode cX10_longestClimb 95 = .ok (.iinc 3 1, 3) := by decide +kernel
theorem dX10_longestClimb_98 : decode cX10_longestClimb 98 = .ok (.goto (-92), 3) := by decide +kernel
theorem dX10_longestClimb_101 : decode cX10_longestClimb 101 = .ok (.iload_n 1, 1) := by decide +kernel
theorem dX10_longestClimb_102 : decode cX10_longestClimb 102 = .ok (.ireturn, 1) := by decide +kernel
theorem dX10_longestEcho_0 : decode cX10_longestEcho 0 = .ok (.aload_n 0, 1) := by decide +kernel
theorem dX10_longestEcho_1 : decode cX10_longestEcho 1 = .ok (.getfield 122, 3) := by decide +kernel
theorem dX10_longestEcho_4 : decode cX10_longestEcho 4 = .ok (.iconst 2, 1) := by decide +kernel
theorem dX10_longestEcho_5 : decode cX10_longestEcho 5 = .ok (.idiv, 1) := by decide +kernel
theorem dX10_longestEcho_6 : decode cX10_longestEcho 6 = .ok (.istore_n 1, 1) := by decide +kernel
theorem dX10_longestEcho_7 : decode cX10_longestEcho 7 = .ok (.iload_n 1, 1) := by decide +kernel
theorem dX10_longestEcho_8 : decode cX10_longestEcho 8 = .ok (.ifCond .le 67, 3) := by decide +kernel
theorem dX10_longestEcho_11 : decode cX10_longestEcho 11 = .ok (.iconst 0, 1) := by decide +kernel
theorem dX10_longestEcho_12 : decode cX10_longestEcho 12 = .ok (.istore_n 2, 1) := by decide +kernel
theorem dX10_longestEcho_13 : decode cX10_longestEcho 13 = .ok (.iload_n 2, 1) := by decide +kernel
theorem dX10_longestEcho_14 : decode cX10_longestEcho 14 = .ok (.iconst 2, 1) := by decide +kernel
theorem dX10_longestEcho_15 : decode cX10_longestEcho 15 = .ok (.iload_n 1, 1) := by decide +kernel
theorem dX10_longestEcho_16 : decode cX10_longestEcho 16 = .ok (.imul, 1) := by decide +kernel
theorem dX10_longestEcho_17 : decode cX10_longestEcho 17 = .ok (.iadd, 1) := by decide +kernel
theorem dX10_longestEcho_18 : decode cX10_longestEcho 18 = .ok (.aload_n 0, 1) := by decide +kernel
theorem dX10_longestEcho_19 : decode cX10_longestEcho 19 = .ok (.getfield 122, 3) := by decide +kernel
theorem dX10_longestEcho_22 : decode cX10_longestEcho 22 = .ok (.if_icmp .gt 47, 3) := by decide +kernel
theorem dX10_longestEcho_25 : decode cX10_longestEcho 25 = .ok (.iload_n 2, 1) := by decide +kernel
theorem dX10_longestEcho_26 : decode cX10_longestEcho 26 = .ok (.iload_n 1, 1) := by decide +kernel
theorem dX10_longestEcho_27 : decode cX10_longestEcho 27 = .ok (.iadd, 1) := by decide +kernel
theorem dX10_longestEcho_28 : decode cX10_longestEcho 28 = .ok (.istore_n 3, 1) := by decide +kernel
theorem dX10_longestEcho_29 : decode cX10_longestEcho 29 = .ok (.iload_n 3, 1) := by decide +kernel
theorem dX10_longestEcho_30 : decode cX10_longestEcho 30 = .ok (.iload_n 1, 1) := by decide +kernel
theorem dX10_longestEcho_31 : decode cX10_longestEcho 31 = .ok (.iadd, 1) := by decide +kernel
theorem dX10_longestEcho_32 : decode cX10_longestEcho 32 = .ok (.aload_n 0, 1) := by decide +kernel
theorem dX10_longestEcho_33 : decode cX10_longestEcho 33 = .ok (.getfield 122, 3) := by decide +kernel
theorem dX10_longestEcho_36 : decode cX10_longestEcho 36 = .ok (.if_icmp .gt 27, 3) := by decide +kernel
theorem dX10_longestEcho_39 : decode cX10_longestEcho 39 = .ok (.aload_n 0, 1) := by decide +kernel
theorem dX10_longestEcho_40 : decode cX10_longestEcho 40 = .ok (.iload_n 2, 1) := by decide +kernel
theorem dX10_longestEcho_41 : decode cX10_longestEcho 41 = .ok (.iload_n 3, 1) := by decide +kernel
theorem dX10_longestEcho_42 : decode cX10_longestEcho 42 = .ok (.iload_n 1, 1) := by decide +kernel
theorem dX10_longestEcho_43 : decode cX10_longestEcho 43 = .ok (.invokevirtual 358, 3) := by decide +kernel
theorem dX10_longestEcho_46 : decode cX10_longestEcho 46 = .ok (.ifCond .eq 11, 3) := by decide +kernel
theorem dX10_longestEcho_49 : decode cX10_longestEcho 49 = .ok (.iload_n 2, 1) := by decide +kernel
theorem dX10_longestEcho_50 : decode cX10_longestEcho 50 = .ok (.iconst 1, 1) := by decide +kernel
theorem dX10_longestEcho_51 : decode cX10_longestEcho 51 = .ok (.iadd, 1) := by decide +kernel
theorem dX10_longestEcho_52 : decode cX10_longestEcho 52 = .ok (.iconst 4, 1) := by decide +kernel
theorem dX10_longestEcho_53 : decode cX10_longestEcho 53 = .ok (.ishl, 1) := by decide +kernel
theorem dX10_longestEcho_54 : decode cX10_longestEcho 54 = .ok (.iload_n 1, 1) := by decide +kernel
theorem dX10_longestEcho_55 : decode cX10_longestEcho 55 = .ok (.ior, 1) := by decide +kernel
theorem dX10_longestEcho_56 : decode cX10_longestEcho 56 = .ok (.ireturn, 1) := by decide +kernel
theorem dX10_longestEcho_57 : decode cX10_longestEcho 57 = .ok (.iinc 3 1, 3) := by decide +kernel
theorem dX10_longestEcho_60 : decode cX10_longestEcho 60 = .ok (.goto (-31), 3) := by decide +kernel
theorem dX10_longestEcho_63 : decode cX10_longestEcho 63 = .ok (.iinc 2 1, 3) := by decide +kernel
theorem dX10_longestEcho_66 : decode cX10_longestEcho 66 = .ok (.goto (-53), 3) := by decide +kernel
theorem dX10_longestEcho_69 : decode cX10_longestEcho 69 = .ok (.iinc 1 (-1), 3) := by decide +kernel
theorem dX10_longestEcho_72 : decode cX10_longestEcho 72 = .ok (.goto (-65), 3) := by decide +kernel
theorem dX10_longestEcho_75 : decode cX10_longestEcho 75 = .ok (.iconst 0, 1) := by decide +kernel
theorem dX10_longestEcho_76 : decode cX10_longestEcho 76 = .ok (.ireturn, 1) := by decide +kernel
theorem dX10_roof_0 : decode cX10_roof 0 = .ok (.aload_n 0, 1) := by decide +kernel
theorem dX10_roof_1 : decode cX10_roof 1 = .ok (.getfield 10, 3) := by decide +kernel
theorem dX10_roof_4 : decode cX10_roof 4 = .ok (.iload_n 1, 1) := by decide +kernel
theorem dX10_roof_5 : decode cX10_roof 5 = .ok (.invokevirtual 113, 3) := by decide +kernel
theorem dX10_roof_8 : decode cX10_roof 8 = .ok (.astore_n 3, 1) := by decide +kernel
theorem dX10_roof_9 : decode cX10_roof 9 = .ok (.aload_n 3, 1) := by decide +kernel
theorem dX10_roof_10 : decode cX10_roof 10 = .ok (.ifnonnull 6, 3) := by decide +kernel
theorem dX10_roof_13 : decode cX10_roof 13 = .ok (.bipush (-2), 2) := by decide +kernel
theorem dX10_roof_15 : decode cX10_roof 15 = .ok (.ireturn, 1) := by decide +kernel
theorem dX10_roof_16 : decode cX10_roof 16 = .ok (.iload_n 2, 1) := by decide +kernel
theorem dX10_roof_17 : decode cX10_roof 17 = .ok (.tableswitch 102 0 6 #[43, 48, 58, 68, 76, 85, 93], 43) := by decide +kernel
theorem dX10_roof_60 : decode cX10_roof 60 = .ok (.aload_n 3, 1) := by decide +kernel
theorem dX10_roof_61 : decode cX10_roof 61 = .ok (.invokevirtual 266, 3) := by decide +kernel
theorem dX10_roof_64 : decode cX10_roof 64 = .ok (.ireturn, 1) := by decide +kernel
theorem dX10_roof_65 : decode cX10_roof 65 = .ok (.aload_n 3, 1) := by decide +kernel
theorem dX10_roof_66 : decode cX10_roof 66 = .ok (.aload_n 3, 1) := by decide +kernel
theorem dX10_roof_67 : decode cX10_roof 67 = .ok (.iconst 0, 1) := by decide +kernel
theorem dX10_roof_68 : decode cX10_roof 68 = .ok (.invokevirtual 269, 3) := by decide +kernel
theorem dX10_roof_71 : decode cX10_roof 71 = .ok (.invokevirtual 260, 3) := by decide +kernel
theorem dX10_roof_74 : decode cX10_roof 74 = .ok (.ireturn, 1) := by decide +kernel
theorem dX10_roof_75 : decode cX10_roof 75 = .ok (.aload_n 3, 1) := by decide +kernel
theorem dX10_roof_76 : decode cX10_roof 76 = .ok (.aload_n 3, 1) := by decide +kernel
theorem dX10_roof_77 : decode cX10_roof 77 = .ok (.iconst 0, 1) := by decide +kernel
theorem dX10_roof_78 : decode cX10_roof 78 = .ok (.invokevirtual 269, 3) := by decide +kernel
theorem dX10_roof_81 : decode cX10_roof 81 = .ok (.invokevirtual 272, 3) := by decide +kernel
theorem dX10_roof_84 : decode cX10_roof 84 = .ok (.ireturn, 1) := by decide +kernel
theorem dX10_roof_85 : decode cX10_roof 85 = .ok (.aload_n 3, 1) := by decide +kernel
theorem dX10_roof_86 : decode cX10_roof 86 = .ok (.invokestatic 275, 3) := by decide +kernel
theorem dX10_roof_89 : decode cX10_roof 89 = .ok (.bipush 15, 2) := by decide +kernel
theorem dX10_roof_91 : decode cX10_roof 91 = .ok (.iand, 1) := by decide +kernel
theorem dX10_roof_92 : decode cX10_roof 92 = .ok (.ireturn, 1) := by decide +kernel
theorem dX10_roof_93 : decode cX10_roof 93 = .ok (.aload_n 3, 1) := by decide +kernel
theorem dX10_roof_94 : decode cX10_roof 94 = .ok (.invokestatic 275, 3) := by decide +kernel
theorem dX10_roof_97 : decode cX10_roof 97 = .ok (.iconst 4, 1) := by decide +kernel
theorem dX10_roof_98 : decode cX10_roof 98 = .ok (.ishr, 1) := by decide +kernel
theorem dX10_roof_99 : decode cX10_roof 99 = .ok (.iconst 1, 1) := by decide +kernel
theorem dX10_roof_100 : decode cX10_roof 100 = .ok (.isub, 1) := by decide +kernel
theorem dX10_roof_101 : decode cX10_roof 101 = .ok (.ireturn, 1) := by decide +kernel
theorem dX10_roof_102 : decode cX10_roof 102 = .ok (.aload_n 3, 1) := by decide +kernel
theorem dX10_roof_103 : decode cX10_roof 103 = .ok (.invokestatic 278, 3) := by decide +kernel
theorem dX10_roof_106 : decode cX10_roof 106 = .ok (.bipush 15, 2) := by decide +kernel
theorem dX10_roof_108 : decode cX10_roof 108 = .ok (.iand, 1) := by decide +kernel
theorem dX10_roof_109 : decode cX10_roof 109 = .ok (.ireturn, 1) := by decide +kernel
theorem dX10_roof_110 : decode cX10_roof 110 = .ok (.aload_n 3, 1) := by decide +kernel
theorem dX10_roof_111 : decode cX10_roof 111 = .ok (.invokestatic 278, 3) := by decide +kernel
theorem dX10_roof_114 : decode cX10_roof 114 = .ok (.iconst 4, 1) := by decide +kernel
theorem dX10_roof_115 : decode cX10_roof 115 = .ok (.ishr, 1) := by decide +kernel
theorem dX10_roof_116 : decode cX10_roof 116 = .ok (.iconst 1, 1) := by decide +kernel
theorem dX10_roof_117 : decode cX10_roof 117 = .ok (.isub, 1) := by decide +kernel
theorem dX10_roof_118 : decode cX10_roof 118 = .ok (.ireturn, 1) := by decide +kernel
theorem dX10_roof_119 : decode cX10_roof 119 = .ok (.iload_n 2, 1) := by decide +kernel
theorem dX10_roof_120 : decode cX10_roof 120 = .ok (.bipush 10, 2) := by decide +kernel
theorem dX10_roof_122 : decode cX10_roof 122 = .ok (.if_icmp .lt 25, 3) := by decide +kernel
theorem dX10_roof_125 : decode cX10_roof 125 = .ok (.aload_n 3, 1) := by decide +kernel
theorem dX10_roof_126 : decode cX10_roof 126 = .ok (.iload_n 2, 1) := by decide +kernel
theorem dX10_roof_127 : decode cX10_roof 127 = .ok (.bipush 10, 2) := by decide +kernel
theorem dX10_roof_129 : decode cX10_roof 129 = .ok (.isub, 1) := by decide +kernel
theorem dX10_roof_130 : decode cX10_roof 130 = .ok (.invokevirtual 156, 3) := by decide +kernel
theorem dX10_roof_133 : decode cX10_roof 133 = .ok (.ifCond .eq 14, 3) := by decide +kernel
theorem dX10_roof_136 : decode cX10_roof 136 = .ok (.aload_n 3, 1) := by decide +kernel
theorem dX10_roof_137 : decode cX10_roof 137 = .ok (.iload_n 2, 1) := by decide +kernel
theorem dX10_roof_138 : decode cX10_roof 138 = .ok (.bipush 10, 2) := by decide +kernel
theorem dX10_roof_140 : decode cX10_roof 140 = .ok (.isub, 1) := by decide +kernel
theorem dX10_roof_141 : decode cX10_roof 141 = .ok (.invokevirtual 281, 3) := by decide +kernel
theorem dX10_roof_144 : decode cX10_roof 144 = .ok (.goto 5, 3) := by decide +kernel
theorem dX10_roof_147 : decode cX10_roof 147 = .ok (.bipush (-2), 2) := by decide +kernel
theorem dX10_roof_149 : decode cX10_roof 149 = .ok (.ireturn, 1) := by decide +kernel
theorem dX10_sleep_0 : decode cX10_sleep 0 = .ok (.aload_n 0, 1) := by decide +kernel
theorem dX10_sleep_1 : decode cX10_sleep 1 = .ok (.getfield 10, 3) := by decide +kernel
theorem dX10_sleep_4 : decode cX10_sleep 4 = .ok (.iload_n 1, 1) := by decide +kernel
theorem dX10_sleep_5 : decode cX10_sleep 5 = .ok (.invokevirtual 113, 3) := by decide +kernel
theorem dX10_sleep_8 : decode cX10_sleep 8 = .ok (.astore 4, 2) := by decide +kernel
theorem dX10_sleep_10 : decode cX10_sleep 10 = .ok (.aload 4, 2) := by decide +kernel
theorem dX10_sleep_12 : decode cX10_sleep 12 = .ok (.ifnull 12, 3) := by decide +kernel
theorem dX10_sleep_15 : decode cX10_sleep 15 = .ok (.aload 4, 2) := by decide +kernel
theorem dX10_sleep_17 : decode cX10_sleep 17 = .ok (.iload_n 2, 1) := by decide +kernel
theorem dX10_sleep_18 : decode cX10_sleep 18 = .ok (.invokevirtual 284, 3) := by decide +kernel
theorem dX10_sleep_21 : decode cX10_sleep 21 = .ok (.ifCond .ne 7, 3) := by decide +kernel
theorem dX10_sleep_24 : decode cX10_sleep 24 = .ok (.ldc2_w 184, 3) := by decide +kernel
theorem dX10_sleep_27 : decode cX10_sleep 27 = .ok (.lreturn, 1) := by decide +kernel
theorem dX10_sleep_28 : decode cX10_sleep 28 = .ok (.aload_n 0, 1) := by decide +kernel
theorem dX10_sleep_29 : decode cX10_sleep 29 = .ok (.getfield 48, 3) := by decide +kernel
theorem dX10_sleep_32 : decode cX10_sleep 32 = .ok (.aload 4, 2) := by decide +kernel
theorem dX10_sleep_34 : decode cX10_sleep 34 = .ok (.invokevirtual 186, 3) := by decide +kernel
theorem dX10_sleep_37 : decode cX10_sleep 37 = .ok (.aload_n 0, 1) := by decide +kernel
theorem dX10_sleep_38 : decode cX10_sleep 38 = .ok (.getfield 48, 3) := by decide +kernel
theorem dX10_sleep_41 : decode cX10_sleep 41 = .ok (.iload_n 2, 1) := by decide +kernel
theorem dX10_sleep_42 : decode cX10_sleep 42 = .ok (.invokevirtual 287, 3) := by decide +kernel
theorem dX10_sleep_45 : decode cX10_sleep 45 = .ok (.iload_n 3, 1) := by decide +kernel
theorem dX10_sleep_46 : decode cX10_sleep 46 = .ok (.invokestatic 194, 3) := by decide +kernel
theorem dX10_sleep_49 : decode cX10_sleep 49 = .ok (.lreturn, 1) := by decide +kernel
theorem dX10_census_0 : decode cX10_census 0 = .ok (.aload_n 0, 1) := by decide +kernel
theorem dX10_census_1 : decode cX10_census 1 = .ok (.getfield 10, 3) := by decide +kernel
theorem dX10_census_4 : decode cX10_census 4 = .ok (.iload_n 1, 1) := by decide +kernel
theorem dX10_census_5 : decode cX10_census 5 = .ok (.invokevirtual 113, 3) := by decide +kernel
theorem dX10_census_8 : decode cX10_census 8 = .ok (.astore 4, 2) := by decide +kernel
theorem dX10_census_10 : decode cX10_census 10 = .ok (.aload 4, 2) := by decide +kernel
theorem dX10_census_12 : decode cX10_census 12 = .ok (.ifnull 13, 3) := by decide +kernel
theorem dX10_census_15 : decode cX10_census 15 = .ok (.iload_n 2, 1) := by decide +kernel
theorem dX10_census_16 : decode cX10_census 16 = .ok (.ifCond .lt 9, 3) := by decide +kernel
theorem dX10_census_19 : decode cX10_census 19 = .ok (.iload_n 2, 1) := by decide +kernel
theorem dX10_census_20 : decode cX10_census 20 = .ok (.bipush 54, 2) := by decide +kernel
theorem dX10_census_22 : decode cX10_census 22 = .ok (.if_icmp .le 7, 3) := by decide +kernel
theorem dX10_census_25 : decode cX10_census 25 = .ok (.ldc2_w 184, 3) := by decide +kernel
theorem dX10_census_28 : decode cX10_census 28 = .ok (.lreturn, 1) := by decide +kernel
theorem dX10_census_29 : decode cX10_census 29 = .ok (.aload_n 0, 1) := by decide +kernel
theorem dX10_census_30 : decode cX10_census 30 = .ok (.getfield 48, 3) := by decide +kernel
theorem dX10_census_33 : decode cX10_census 33 = .ok (.aload 4, 2) := by decide +kernel
theorem dX10_census_35 : decode cX10_census 35 = .ok (.invokevirtual 186, 3) := by decide +kernel
theorem dX10_census_38 : decode cX10_census 38 = .ok (.aload_n 0, 1) := by decide +kernel
theorem dX10_census_39 : decode cX10_census 39 = .ok (.getfield 48, 3) := by decide +kernel
theorem dX10_census_42 : decode cX10_census 42 = .ok (.iload_n 2, 1) := by decide +kernel
theorem dX10_census_43 : decode cX10_census 43 = .ok (.invokevirtual 291, 3) := by decide +kernel
theorem dX10_census_46 : decode cX10_census 46 = .ok (.iload_n 3, 1) := by decide +kernel
theorem dX10_census_47 : decode cX10_census 47 = .ok (.invokestatic 194, 3) := by decide +kernel
theorem dX10_census_50 : decode cX10_census 50 = .ok (.lreturn, 1) := by decide +kernel
theorem dX10_move_0 : decode cX10_move 0 = .ok (.aload_n 0, 1) := by decide +kernel
theorem dX10_move_1 : decode cX10_move 1 = .ok (.getfield 10, 3) := by decide +kernel
theorem dX10_move_4 : decode cX10_move 4 = .ok (.iload_n 1, 1) := by decide +kernel
theorem dX10_move_5 : decode cX10_move 5 = .ok (.invokevirtual 113, 3) := by decide +kernel
theorem dX10_move_8 : decode cX10_move 8 = .ok (.astore 4, 2) := by decide +kernel
theorem dX10_move_10 : decode cX10_move 10 = .ok (.aload 4, 2) := by decide +kernel
theorem dX10_move_12 : decode cX10_move 12 = .ok (.ifnull 21, 3) := by decide +kernel
theorem dX10_move_15 : decode cX10_move 15 = .ok (.aload 4, 2) := by decide +kernel
theorem dX10_move_17 : decode cX10_move 17 = .ok (.iload_n 2, 1) := by decide +kernel
theorem dX10_move_18 : decode cX10_move 18 = .ok (.invokevirtual 284, 3) := by decide +kernel
theorem dX10_move_21 : decode cX10_move 21 = .ok (.ifCond .eq 12, 3) := by decide +kernel
theorem dX10_move_24 : decode cX10_move 24 = .ok (.aload 4, 2) := by decide +kernel
theorem dX10_move_26 : decode cX10_move 26 = .ok (.iload_n 3, 1) := by decide +kernel
theorem dX10_move_27 : decode cX10_move 27 = .ok (.invokevirtual 284, 3) := by decide +kernel
theorem dX10_move_30 : decode cX10_move 30 = .ok (.ifCond .ne 7, 3) := by decide +kernel
theorem dX10_move_33 : decode cX10_move 33 = .ok (.sipush (-999), 3) := by decide +kernel
theorem dX10_move_36 : decode cX10_move 36 = .ok (.ireturn, 1) := by decide +kernel
theorem dX10_move_37 : decode cX10_move 37 = .ok (.aload 4, 2) := by decide +kernel
theorem dX10_move_39 : decode cX10_move 39 = .ok (.aload 4, 2) := by decide +kernel
theorem dX10_move_41 : decode cX10_move 41 = .ok (.iload_n 3, 1) := by decide +kernel
theorem dX10_move_42 : decode cX10_move 42 = .ok (.invokevirtual 269, 3) := by decide +kernel
theorem dX10_move_45 : decode cX10_move 45 = .ok (.invokevirtual 260, 3) := by decide +kernel
theorem dX10_move_48 : decode cX10_move 48 = .ok (.aload 4, 2) := by decide +kernel
theorem dX10_move_50 : decode cX10_move 50 = .ok (.aload 4, 2) := by decide +kernel
theorem dX10_move_52 : decode cX10_move 52 = .ok (.iload_n 2, 1) := by decide +kernel
theorem dX10_move_53 : decode cX10_move 53 = .ok (.invokevirtual 269, 3) := by decide +kernel
theorem dX10_move_56 : decode cX10_move 56 = .ok (.invokevirtual 260, 3) := by decide +kernel
theorem dX10_move_59 : decode cX10_move 59 = .ok (.isub, 1) := by decide +kernel
theorem dX10_move_60 : decode cX10_move 60 = .ok (.istore 5, 2) := by decide +kernel
theorem dX10_move_62 : decode cX10_move 62 = .ok (.aload 4, 2) := by decide +kernel
theorem dX10_move_64 : decode cX10_move 64 = .ok (.iload_n 2, 1) := by decide +kernel
theorem dX10_move_65 : decode cX10_move 65 = .ok (.invokevirtual 294, 3) := by decide +kernel
theorem dX10_move_68 : decode cX10_move 68 = .ok (.iload 5, 2) := by decide +kernel
theorem dX10_move_70 : decode cX10_move 70 = .ok (.imul, 1) := by decide +kernel
theorem dX10_move_71 : decode cX10_move 71 = .ok (.ireturn, 1) := by decide +kernel
theorem dX10_range_0 : decode cX10_range 0 = .ok (.aload_n 0, 1) := by decide +kernel
theorem dX10_range_1 : decode cX10_range 1 = .ok (.getfield 10, 3) := by decide +kernel
theorem dX10_range_4 : decode cX10_range 4 = .ok (.iload_n 1, 1) := by decide +kernel
theorem dX10_range_5 : decode cX10_range 5 = .ok (.invokevirtual 113, 3) := by decide +kernel
theorem dX10_range_8 : decode cX10_range 8 = .ok (.astore_n 3, 1) := by decide +kernel
theorem dX10_range_9 : decode cX10_range 9 = .ok (.aload_n 3, 1) := by decide +kernel
theorem dX10_range_10 : decode cX10_range 10 = .ok (.ifnull 14, 3) := by decide +kernel
theorem dX10_range_13 : decode cX10_range 13 = .ok (.iload_n 2, 1) := by decide +kernel
theorem dX10_range_14 : decode cX10_range 14 = .ok (.aload_n 3, 1) := by decide +kernel
theorem dX10_range_15 : decode cX10_range 15 = .ok (.invokevirtual 297, 3) := by decide +kernel
theorem dX10_range_18 : decode cX10_range 18 = .ok (.iconst (-1), 1) := by decide +kernel
theorem dX10_range_19 : decode cX10_range 19 = .ok (.ixor, 1) := by decide +kernel
theorem dX10_range_20 : decode cX10_range 20 = .ok (.iand, 1) := by decide +kernel
theorem dX10_range_21 : decode cX10_range 21 = .ok (.ifCond .eq 5, 3) := by decide +kernel
theorem dX10_range_24 : decode cX10_range 24 = .ok (.iconst (-1), 1) := by decide +kernel
theorem dX10_range_25 : decode cX10_range 25 = .ok (.ireturn, 1) := by decide +kernel
theorem dX10_range_26 : decode cX10_range 26 = .ok (.aload_n 3, 1) := by decide +kernel
theorem dX10_range_27 : decode cX10_range 27 = .ok (.iload_n 2, 1) := by decide +kernel
theorem dX10_range_28 : decode cX10_range 28 = .ok (.invokevirtual 300, 3) := by decide +kernel
theorem dX10_range_31 : decode cX10_range 31 = .ok (.invokestatic 171, 3) := by decide +kernel
theorem dX10_range_34 : decode cX10_range 34 = .ok (.ireturn, 1) := by decide +kernel
theorem dX10_smallestChoir_0 : decode cX10_smallestChoir 0 = .ok (.aload_n 0, 1) := by decide +kernel
theorem dX10_smallestChoir_1 : decode cX10_smallestChoir 1 = .ok (.invokevirtual 362, 3) := by decide +kernel
theorem dX10_smallestChoir_4 : decode cX10_smallestChoir 4 = .ok (.istore_n 1, 1) := by decide +kernel
theorem dX10_smallestChoir_5 : decode cX10_smallestChoir 5 = .ok (.iconst (-1), 1) := by decide +kernel
theorem dX10_smallestChoir_6 : decode cX10_smallestChoir 6 = .ok (.istore_n 2, 1) := by decide +kernel
theorem dX10_smallestChoir_7 : decode cX10_smallestChoir 7 = .ok (.iconst 0, 1) := by decide +kernel
theorem dX10_smallestChoir_8 : decode cX10_smallestChoir 8 = .ok (.istore_n 3, 1) := by decide +kernel
theorem dX10_smallestChoir_9 : decode cX10_smallestChoir 9 = .ok (.iload_n 3, 1) := by decide +kernel
theorem dX10_smallestChoir_10 : decode cX10_smallestChoir 10 = .ok (.aload_n 0, 1) := by decide +kernel
theorem dX10_smallestChoir_11 : decode cX10_smallestChoir 11 = .ok (.invokevirtual 297, 3) := by decide +kernel
theorem dX10_smallestChoir_14 : decode cX10_smallestChoir 14 = .ok (.if_icmp .gt 51, 3) := by decide +kernel
theorem dX10_smallestChoir_17 : decode cX10_smallestChoir 17 = .ok (.iload_n 1, 1) := by decide +kernel
theorem dX10_smallestChoir_18 : decode cX10_smallestChoir 18 = .ok (.aload_n 0, 1) := by decide +kernel
theorem dX10_smallestChoir_19 : decode cX10_smallestChoir 19 = .ok (.iload_n 3, 1) := by decide +kernel
theorem dX10_smallestChoir_20 : decode cX10_smallestChoir 20 = .ok (.invokevirtual 300, 3) := by decide +kernel
theorem dX10_smallestChoir_23 : decode cX10_smallestChoir 23 = .ok (.iconst (-1), 1) := by decide +kernel
theorem dX10_smallestChoir_24 : decode cX10_smallestChoir 24 = .ok (.ixor, 1) := by decide +kernel
theorem dX10_smallestChoir_25 : decode cX10_smallestChoir 25 = .ok (.iand, 1) := by decide +kernel
theorem dX10_smallestChoir_26 : decode cX10_smallestChoir 26 = .ok (.ifCond .ne 7, 3) := by decide +kernel
theorem dX10_smallestChoir_29 : decode cX10_smallestChoir 29 = .ok (.iconst 1, 1) := by decide +kernel
theorem dX10_smallestChoir_30 : decode cX10_smallestChoir 30 = .ok (.goto 4, 3) := by decide +kernel
theorem dX10_smallestChoir_33 : decode cX10_smallestChoir 33 = .ok (.iconst 0, 1) := by decide +kernel
theorem dX10_smallestChoir_34 : decode cX10_smallestChoir 34 = .ok (.istore 4, 2) := by decide +kernel
theorem dX10_smallestChoir_36 : decode cX10_smallestChoir 36 = .ok (.iload 4, 2) := by decide +kernel
theorem dX10_smallestChoir_38 : decode cX10_smallestChoir 38 = .ok (.ifCond .eq 21, 3) := by decide +kernel
theorem dX10_smallestChoir_41 : decode cX10_smallestChoir 41 = .ok (.iload_n 2, 1) := by decide +kernel
theorem dX10_smallestChoir_42 : decode cX10_smallestChoir 42 = .ok (.iconst (-1), 1) := by decide +kernel
theorem dX10_smallestChoir_43 : decode cX10_smallestChoir 43 = .ok (.if_icmp .eq 14, 3) := by decide +kernel
theorem dX10_smallestChoir_46 : decode cX10_smallestChoir 46 = .ok (.iload_n 3, 1) := by decide +kernel
theorem dX10_smallestChoir_47 : decode cX10_smallestChoir 47 = .ok (.invokestatic 171, 3) := by decide +kernel
theorem dX10_smallestChoir_50 : decode cX10_smallestChoir 50 = .ok (.iload_n 2, 1) := by decide +kernel
theorem dX10_smallestChoir_51 : decode cX10_smallestChoir 51 = .ok (.invokestatic 171, 3) := by decide +kernel
theorem dX10_smallestChoir_54 : decode cX10_smallestChoir 54 = .ok (.if_icmp .ge 5, 3) := by decide +kernel
theorem dX10_smallestChoir_57 : decode cX10_smallestChoir 57 = .ok (.iload_n 3, 1) := by decide +kernel
theorem dX10_smallestChoir_58 : decode cX10_smallestChoir 58 = .ok (.istore_n 2, 1) := by decide +kernel
theorem dX10_smallestChoir_59 : decode cX10_smallestChoir 59 = .ok (.iinc 3 1, 3) := by decide +kernel
theorem dX10_smallestChoir_62 : decode cX10_smallestChoir 62 = .ok (.goto (-53), 3) := by decide +kernel
theorem dX10_smallestChoir_65 : decode cX10_smallestChoir 65 = .ok (.iload_n 2, 1) := by decide +kernel
theorem dX10_smallestChoir_66 : decode cX10_smallestChoir 66 = .ok (.ireturn, 1) := by decide +kernel
theorem dX10_choir_0 : decode cX10_choir 0 = .ok (.aload_n 0, 1) := by decide +kernel
theorem dX10_choir_1 : decode cX10_choir 1 = .ok (.getfield 10, 3) := by decide +kernel
theorem dX10_choir_4 : decode cX10_choir 4 = .ok (.iload_n 1, 1) := by decide +kernel
theorem dX10_choir_5 : decode cX10_choir 5 = .ok (.invokevirtual 113, 3) := by decide +kernel
theorem dX10_choir_8 : decode cX10_choir 8 = .ok (.astore_n 3, 1) := by decide +kernel
theorem dX10_choir_9 : decode cX10_choir 9 = .ok (.aload_n 3, 1) := by decide +kernel
theorem dX10_choir_10 : decode cX10_choir 10 = .ok (.ifnonnull 5, 3) := by decide +kernel
theorem dX10_choir_13 : decode cX10_choir 13 = .ok (.iconst (-1), 1) := by decide +kernel
theorem dX10_choir_14 : decode cX10_choir 14 = .ok (.ireturn, 1) := by decide +kernel
theorem dX10_choir_15 : decode cX10_choir 15 = .ok (.aload_n 3, 1) := by decide +kernel
theorem dX10_choir_16 : decode cX10_choir 16 = .ok (.invokestatic 303, 3) := by decide +kernel
theorem dX10_choir_19 : decode cX10_choir 19 = .ok (.istore 4, 2) := by decide +kernel
theorem dX10_choir_21 : decode cX10_choir 21 = .ok (.iload 4, 2) := by decide +kernel
theorem dX10_choir_23 : decode cX10_choir 23 = .ok (.iconst (-1), 1) := by decide +kernel
theorem dX10_choir_24 : decode cX10_choir 24 = .ok (.if_icmp .eq 7, 3) := by decide +kernel
theorem dX10_choir_27 : decode cX10_choir 27 = .ok (.iload_n 2, 1) := by decide +kernel
theorem dX10_choir_28 : decode cX10_choir 28 = .ok (.ifCond .eq 8, 3) := by decide +kernel
theorem dX10_choir_31 : decode cX10_choir 31 = .ok (.iload 4, 2) := by decide +kernel
theorem dX10_choir_33 : decode cX10_choir 33 = .ok (.goto 8, 3) := by decide +kernel
theorem dX10_choir_36 : decode cX10_choir 36 = .ok (.iload 4, 2) := by decide +kernel
theorem dX10_choir_38 : decode cX10_choir 38 = .ok (.invokestatic 171, 3) := by decide +kernel
theorem dX10_choir_41 : decode cX10_choir 41 = .ok (.ireturn, 1) := by decide +kernel
theorem dX10_after_0 : decode cX10_after 0 = .ok (.aload_n 0, 1) := by decide +kernel
theorem dX10_after_1 : decode cX10_after 1 = .ok (.getfield 10, 3) := by decide +kernel
theorem dX10_after_4 : decode cX10_after 4 = .ok (.iload_n 1, 1) := by decide +kernel
theorem dX10_after_5 : decode cX10_after 5 = .ok (.invokevirtual 113, 3) := by decide +kernel
theorem dX10_after_8 : decode cX10_after 8 = .ok (.astore 4, 2) := by decide +kernel
theorem dX10_after_10 : decode cX10_after 10 = .ok (.aload_n 0, 1) := by decide +kernel
theorem dX10_after_11 : decode cX10_after 11 = .ok (.getfield 10, 3) := by decide +kernel
theorem dX10_after_14 : decode cX10_after 14 = .ok (.iload_n 2, 1) := by decide +kernel
theorem dX10_after_15 : decode cX10_after 15 = .ok (.invokevirtual 138, 3) := by decide +kernel
theorem dX10_after_18 : decode cX10_after 18 = .ok (.astore 5, 2) := by decide +kernel
theorem dX10_after_20 : decode cX10_after 20 = .ok (.aload 4, 2) := by decide +kernel
theorem dX10_after_22 : decode cX10_after 22 = .ok (.ifnull 8, 3) := by decide +kernel
theorem dX10_after_25 : decode cX10_after 25 = .ok (.aload 5, 2) := by decide +kernel
theorem dX10_after_27 : decode cX10_after 27 = .ok (.ifnonnull 6, 3) := by decide +kernel
theorem dX10_after_30 : decode cX10_after 30 = .ok (.bipush (-2), 2) := by decide +kernel
theorem dX10_after_32 : decode cX10_after 32 = .ok (.ireturn, 1) := by decide +kernel
theorem dX10_after_33 : decode cX10_after 33 = .ok (.aload_n 0, 1) := by decide +kernel
theorem dX10_after_34 : decode cX10_after 34 = .ok (.getfield 41, 3) := by decide +kernel
theorem dX10_after_37 : decode cX10_after 37 = .ok (.aload 4, 2) := by decide +kernel
theorem dX10_after_39 : decode cX10_after 39 = .ok (.aload 5, 2) := by decide +kernel
theorem dX10_after_41 : decode cX10_after 41 = .ok (.aload 5, 2) := by decide +kernel
theorem dX10_after_43 : decode cX10_after 43 = .ok (.getfield 146, 3) := by decide +kernel
theorem dX10_after_46 : decode cX10_after 46 = .ok (.invokevirtual 149, 3) := by decide +kernel
theorem dX10_after_49 : decode cX10_after 49 = .ok (.pop, 1) := by decide +kernel
theorem dX10_after_50 : decode cX10_after 50 = .ok (.iload_n 3, 1) := by decide +kernel
theorem dX10_after_51 : decode cX10_after 51 = .ok (.tableswitch 61 0 3 #[29, 37, 45, 53], 29) := by decide +kernel
theorem dX10_after_80 : decode cX10_after 80 = .ok (.aload_n 0, 1) := by decide +kernel
theorem dX10_after_81 : decode cX10_after 81 = .ok (.getfield 41, 3) := by decide +kernel
theorem dX10_after_84 : decode cX10_after 84 = .ok (.getfield 306, 3) := by decide +kernel
theorem dX10_after_87 : decode cX10_after 87 = .ok (.ireturn, 1) := by decide +kernel
theorem dX10_after_88 : decode cX10_after 88 = .ok (.aload_n 0, 1) := by decide +kernel
theorem dX10_after_89 : decode cX10_after 89 = .ok (.getfield 41, 3) := by decide +kernel
theorem dX10_after_92 : decode cX10_after 92 = .ok (.invokevirtual 309, 3) := by decide +kernel
theorem dX10_after_95 : decode cX10_after 95 = .ok (.ireturn, 1) := by decide +kernel
theorem dX10_after_96 : decode cX10_after 96 = .ok (.aload_n 0, 1) := by decide +kernel
theorem dX10_after_97 : decode cX10_after 97 = .ok (.getfield 41, 3) := by decide +kernel
theorem dX10_after_100 : decode cX10_after 100 = .ok (.getfield 312, 3) := by decide +kernel
theorem dX10_after_103 : decode cX10_after 103 = .ok (.ireturn, 1) := by decide +kernel
theorem dX10_after_104 : decode cX10_after 104 = .ok (.aload_n 0, 1) := by decide +kernel
theorem dX10_after_105 : decode cX10_after 105 = .ok (.getfield 41, 3) := by decide +kernel
theorem dX10_after_108 : decode cX10_after 108 = .ok (.getfield 315, 3) := by decide +kernel
theorem dX10_after_111 : decode cX10_after 111 = .ok (.ireturn, 1) := by decide +kernel
theorem dX10_after_112 : decode cX10_after 112 = .ok (.bipush (-2), 2) := by decide +kernel
theorem dX10_after_114 : decode cX10_after 114 = .ok (.ireturn, 1) := by decide +kernel
theorem dX10_odds_0 : decode cX10_odds 0 = .ok (.aload_n 0, 1) := by decide +kernel
theorem dX10_odds_1 : decode cX10_odds 1 = .ok (.getfield 10, 3) := by decide +kernel
theorem dX10_odds_4 : decode cX10_odds 4 = .ok (.iload_n 1, 1) := by decide +kernel
theorem dX10_odds_5 : decode cX10_odds 5 = .ok (.invokevirtual 113, 3) := by decide +kernel
theorem dX10_odds_8 : decode cX10_odds 8 = .ok (.astore 5, 2) := by decide +kernel
theorem dX10_odds_10 : decode cX10_odds 10 = .ok (.aload_n 0, 1) := by decide +kernel
theorem dX10_odds_11 : decode cX10_odds 11 = .ok (.aload 5, 2) := by decide +kernel
theorem dX10_odds_13 : decode cX10_odds 13 = .ok (.aload_n 0, 1) := by decide +kernel
theorem dX10_odds_14 : decode cX10_odds 14 = .ok (.getfield 10, 3) := by decide +kernel
theorem dX10_odds_17 : decode cX10_odds 17 = .ok (.iload_n 2, 1) := by decide +kernel
theorem dX10_odds_18 : decode cX10_odds 18 = .ok (.invokevirtual 219, 3) := by decide +kernel
theorem dX10_odds_21 : decode cX10_odds 21 = .ok (.invokevirtual 222, 3) := by decide +kernel
theorem dX10_odds_24 : decode cX10_odds 24 = .ok (.ifCond .eq 13, 3) := by decide +kernel
theorem dX10_odds_27 : decode cX10_odds 27 = .ok (.aload_n 0, 1) := by decide +kernel
theorem dX10_odds_28 : decode cX10_odds 28 = .ok (.getfield 69, 3) := by decide +kernel
theorem dX10_odds_31 : decode cX10_odds 31 = .ok (.getfield 226, 3) := by decide +kernel
theorem dX10_odds_34 : decode cX10_odds 34 = .ok (.ifCond .ne 7, 3) := by decide +kernel
theorem dX10_odds_37 : decode cX10_odds 37 = .ok (.ldc2_w 184, 3) := by decide +kernel
theorem dX10_odds_40 : decode cX10_odds 40 = .ok (.lreturn, 1) := by decide +kernel
theorem dX10_odds_41 : decode cX10_odds 41 = .ok (.iload_n 3, 1) := by decide +kernel
theorem dX10_odds_42 : decode cX10_odds 42 = .ok (.iconst 5, 1) := by decide +kernel
theorem dX10_odds_43 : decode cX10_odds 43 = .ok (.if_icmp .eq 21, 3) := by decide +kernel
theorem dX10_odds_46 : decode cX10_odds 46 = .ok (.aload 5, 2) := by decide +kernel
theorem dX10_odds_48 : decode cX10_odds 48 = .ok (.ifnull 12, 3) := by decide +kernel
theorem dX10_odds_51 : decode cX10_odds 51 = .ok (.aload 5, 2) := by decide +kernel
theorem dX10_odds_53 : decode cX10_odds 53 = .ok (.iload_n 3, 1) := by decide +kernel
theorem dX10_odds_54 : decode cX10_odds 54 = .ok (.invokevirtual 239, 3) := by decide +kernel
theorem dX10_odds_57 : decode cX10_odds 57 = .ok (.ifCond .ne 7, 3) := by decide +kernel
theorem dX10_odds_60 : decode cX10_odds 60 = .ok (.ldc2_w 184, 3) := by decide +kernel
theorem dX10_odds_63 : decode cX10_odds 63 = .ok (.lreturn, 1) := by decide +kernel
theorem dX10_odds_64 : decode cX10_odds 64 = .ok (.aload_n 0, 1) := by decide +kernel
theorem dX10_odds_65 : decode cX10_odds 65 = .ok (.getfield 69, 3) := by decide +kernel
theorem dX10_odds_68 : decode cX10_odds 68 = .ok (.getfield 226, 3) := by decide +kernel
theorem dX10_odds_71 : decode cX10_odds 71 = .ok (.iload_n 3, 1) := by decide +kernel
theorem dX10_odds_72 : decode cX10_odds 72 = .ok (.ishr, 1) := by decide +kernel
theorem dX10_odds_73 : decode cX10_odds 73 = .ok (.iconst 1, 1) := by decide +kernel
theorem dX10_odds_74 : decode cX10_odds 74 = .ok (.iand, 1) := by decide +kernel
theorem dX10_odds_75 : decode cX10_odds 75 = .ok (.ifCond .eq 7, 3) := by decide +kernel
theorem dX10_odds_78 : decode cX10_odds 78 = .ok (.iconst 1, 1) := by decide +kernel
theorem dX10_odds_79 : decode cX10_odds 79 = .ok (.goto 4, 3) := by decide +kernel
theorem dX10_odds_82 : decode cX10_odds 82 = .ok (.iconst 0, 1) := by decide +kernel
theorem dX10_odds_83 : decode cX10_odds 83 = .ok (.istore 6, 2) := by decide +kernel
theorem dX10_odds_85 : decode cX10_odds 85 = .ok (.iload 4, 2) := by decide +kernel
theorem dX10_odds_87 : decode cX10_odds 87 = .ok (.ifCond .eq 24, 3) := by decide +kernel
theorem dX10_odds_90 : decode cX10_odds 90 = .ok (.iload 6, 2) := by decide +kernel
theorem dX10_odds_92 : decode cX10_odds 92 = .ok (.ifCond .eq 17, 3) := by decide +kernel
theorem dX10_odds_95 : decode cX10_odds 95 = .ok (.aload_n 0, 1) := by decide +kernel
theorem dX10_odds_96 : decode cX10_odds 96 = .ok (.getfield 69, 3) := by decide +kernel
theorem dX10_odds_99 : decode cX10_odds 99 = .ok (.getfield 226, 3) := by decide +kernel
theorem dX10_odds_102 : decode cX10_odds 102 = .ok (.invokestatic 171, 3) := by decide +kernel
theorem dX10_odds_105 : decode cX10_odds 105 = .ok (.i2l, 1) := by decide +kernel
theorem dX10_odds_106 : decode cX10_odds 106 = .ok (.goto 4, 3) := by decide +kernel
theorem dX10_odds_109 : decode cX10_odds 109 = .ok (.lconst 1, 1) := by decide +kernel
theorem dX10_odds_110 : decode cX10_odds 110 = .ok (.lreturn, 1) := by decide +kernel
theorem dX10_odds_111 : decode cX10_odds 111 = .ok (.iload 6, 2) := by decide +kernel
theorem dX10_odds_113 : decode cX10_odds 113 = .ok (.ifCond .eq 7, 3) := by decide +kernel
theorem dX10_odds_116 : decode cX10_odds 116 = .ok (.lconst 1, 1) := by decide +kernel
theorem dX10_odds_117 : decode cX10_odds 117 = .ok (.goto 4, 3) := by decide +kernel
theorem dX10_odds_120 : decode cX10_odds 120 = .ok (.lconst 0, 1) := by decide +kernel
theorem dX10_odds_121 : decode cX10_odds 121 = .ok (.lreturn, 1) := by decide +kernel
theorem dX10_hire_0 : decode cX10_hire 0 = .ok (.aload_n 0, 1) := by decide +kernel
theorem dX10_hire_1 : decode cX10_hire 1 = .ok (.getfield 10, 3) := by decide +kernel
theorem dX10_hire_4 : decode cX10_hire 4 = .ok (.iload_n 1, 1) := by decide +kernel
theorem dX10_hire_5 : decode cX10_hire 5 = .ok (.invokevirtual 113, 3) := by decide +kernel
theorem dX10_hire_8 : decode cX10_hire 8 = .ok (.astore_n 2, 1) := by decide +kernel
theorem dX10_hire_9 : decode cX10_hire 9 = .ok (.aload_n 2, 1) := by decide +kernel
theorem dX10_hire_10 : decode cX10_hire 10 = .ok (.ifnonnull 7, 3) := by decide +kernel
theorem dX10_hire_13 : decode cX10_hire 13 = .ok (.iconst (-1), 1) := by decide +kernel
theorem dX10_hire_14 : decode cX10_hire 14 = .ok (.goto 11, 3) := by decide +kernel
theorem dX10_hire_17 : decode cX10_hire 17 = .ok (.aload_n 0, 1) := by decide +kernel
theorem dX10_hire_18 : decode cX10_hire 18 = .ok (.getfield 34, 3) := by decide +kernel
theorem dX10_hire_21 : decode cX10_hire 21 = .ok (.aload_n 2, 1) := by decide +kernel
theorem dX10_hire_22 : decode cX10_hire 22 = .ok (.invokevirtual 318, 3) := by decide +kernel
theorem dX10_hire_25 : decode cX10_hire 25 = .ok (.ireturn, 1) := by decide +kernel
theorem dX10_shift_0 : decode cX10_shift 0 = .ok (.aload_n 0, 1) := by decide +kernel
theorem dX10_shift_1 : decode cX10_shift 1 = .ok (.getfield 10, 3) := by decide +kernel
theorem dX10_shift_4 : decode cX10_shift 4 = .ok (.iload_n 1, 1) := by decide +kernel
theorem dX10_shift_5 : decode cX10_shift 5 = .ok (.invokevirtual 113, 3) := by decide +kernel
theorem dX10_shift_8 : decode cX10_shift 8 = .ok (.astore_n 3, 1) := by decide +kernel
theorem dX10_shift_9 : decode cX10_shift 9 = .ok (.aload_n 3, 1) := by decide +kernel
theorem dX10_shift_10 : decode cX10_shift 10 = .ok (.ifnull 15, 3) := by decide +kernel
theorem dX10_shift_13 : decode cX10_shift 13 = .ok (.iload_n 2, 1) := by decide +kernel
theorem dX10_shift_14 : decode cX10_shift 14 = .ok (.bipush (-8), 2) := by decide +kernel
theorem dX10_shift_16 : decode cX10_shift 16 = .ok (.if_icmp .lt 9, 3) := by decide +kernel
theorem dX10_shift_19 : decode cX10_shift 19 = .ok (.iload_n 2, 1) := by decide +kernel
theorem dX10_shift_20 : decode cX10_shift 20 = .ok (.bipush 8, 2) := by decide +kernel
theorem dX10_shift_22 : decode cX10_shift 22 = .ok (.if_icmp .le 5, 3) := by decide +kernel
theorem dX10_shift_25 : decode cX10_shift 25 = .ok (.iconst (-1), 1) := by decide +kernel
theorem dX10_shift_26 : decode cX10_shift 26 = .ok (.ireturn, 1) := by decide +kernel
theorem dX10_shift_27 : decode cX10_shift 27 = .ok (.aload_n 3, 1) := by decide +kernel
theorem dX10_shift_28 : decode cX10_shift 28 = .ok (.iload_n 2, 1) := by decide +kernel
theorem dX10_shift_29 : decode cX10_shift 29 = .ok (.invokevirtual 321, 3) := by decide +kernel
theorem dX10_shift_32 : decode cX10_shift 32 = .ok (.ireturn, 1) := by decide +kernel
theorem dX10_tuned_0 : decode cX10_tuned 0 = .ok (.aload_n 0, 1) := by decide +kernel
theorem dX10_tuned_1 : decode cX10_tuned 1 = .ok (.getfield 10, 3) := by decide +kernel
theorem dX10_tuned_4 : decode cX10_tuned 4 = .ok (.iload_n 1, 1) := by decide +kernel
theorem dX10_tuned_5 : decode cX10_tuned 5 = .ok (.invokevirtual 113, 3) := by decide +kernel
theorem dX10_tuned_8 : decode cX10_tuned 8 = .ok (.astore_n 2, 1) := by decide +kernel
theorem dX10_tuned_9 : decode cX10_tuned 9 = .ok (.aload_n 2, 1) := by decide +kernel
theorem dX10_tuned_10 : decode cX10_tuned 10 = .ok (.ifnonnull 6, 3) := by decide +kernel
theorem dX10_tuned_13 : decode cX10_tuned 13 = .ok (.bipush (-99), 2) := by decide +kernel
theorem dX10_tuned_15 : decode cX10_tuned 15 = .ok (.ireturn, 1) := by decide +kernel
theorem dX10_tuned_16 : decode cX10_tuned 16 = .ok (.iconst 0, 1) := by decide +kernel
theorem dX10_tuned_17 : decode cX10_tuned 17 = .ok (.istore_n 3, 1) := by decide +kernel
theorem dX10_tuned_18 : decode cX10_tuned 18 = .ok (.iconst 1, 1) := by decide +kernel
theorem dX10_tuned_19 : decode cX10_tuned 19 = .ok (.istore 4, 2) := by decide +kernel
theorem dX10_tuned_21 : decode cX10_tuned 21 = .ok (.iload 4, 2) := by decide +kernel
theorem dX10_tuned_23 : decode cX10_tuned 23 = .ok (.bipush 8, 2) := by decide +kernel
theorem dX10_tuned_25 : decode cX10_tuned 25 = .ok (.if_icmp .gt 45, 3) := by decide +kernel
theorem dX10_tuned_28 : decode cX10_tuned 28 = .ok (.aload_n 2, 1) := by decide +kernel
theorem dX10_tuned_29 : decode cX10_tuned 29 = .ok (.iload 4, 2) := by decide +kernel
theorem dX10_tuned_31 : decode cX10_tuned 31 = .ok (.invokevirtual 321, 3) := by decide +kernel
theorem dX10_tuned_34 : decode cX10_tuned 34 = .ok (.aload_n 2, 1) := by decide +kernel
theorem dX10_tuned_35 : decode cX10_tuned 35 = .ok (.iload_n 3, 1) := by decide +kernel
theorem dX10_tuned_36 : decode cX10_tuned 36 = .ok (.invokevirtual 321, 3) := by decide +kernel
theorem dX10_tuned_39 : decode cX10_tuned 39 = .ok (.if_icmp .le 6, 3) := by decide +kernel
theorem dX10_tuned_42 : decode cX10_tuned 42 = .ok (.iload 4, 2) := by decide +kernel
theorem dX10_tuned_44 : decode cX10_tuned 44 = .ok (.istore_n 3, 1) := by decide +kernel
theorem dX10_tuned_45 : decode cX10_tuned 45 = .ok (.aload_n 2, 1) := by decide +kernel
theorem dX10_tuned_46 : decode cX10_tuned 46 = .ok (.iload 4, 2) := by decide +kernel
theorem dX10_tuned_48 : decode cX10_tuned 48 = .ok (.ineg, 1) := by decide +kernel
theorem dX10_tuned_49 : decode cX10_tuned 49 = .ok (.invokevirtual 321, 3) := by decide +kernel
theorem dX10_tuned_52 : decode cX10_tuned 52 = .ok (.aload_n 2, 1) := by decide +kernel
theorem dX10_tuned_53 : decode cX10_tuned 53 = .ok (.iload_n 3, 1) := by decide +kernel
theorem dX10_tuned_54 : decode cX10_tuned 54 = .ok (.invokevirtual 321, 3) := by decide +kernel
theorem dX10_tuned_57 : decode cX10_tuned 57 = .ok (.if_icmp .le 7, 3) := by decide +kernel
theorem dX10_tuned_60 : decode cX10_tuned 60 = .ok (.iload 4, 2) := by decide +kernel
theorem dX10_tuned_62 : decode cX10_tuned 62 = .ok (.ineg, 1) := by decide +kernel
theorem dX10_tuned_63 : decode cX10_tuned 63 = .ok (.istore_n 3, 1) := by decide +kernel
theorem dX10_tuned_64 : decode cX10_tuned 64 = .ok (.iinc 4 1, 3) := by decide +kernel
theorem dX10_tuned_67 : decode cX10_tuned 67 = .ok (.goto (-46), 3) := by decide +kernel
theorem dX10_tuned_70 : decode cX10_tuned 70 = .ok (.iload_n 3, 1) := by decide +kernel
theorem dX10_tuned_71 : decode cX10_tuned 71 = .ok (.ireturn, 1) := by decide +kernel
theorem dX10_landing_0 : decode cX10_landing 0 = .ok (.aload_n 0, 1) := by decide +kernel
theorem dX10_landing_1 : decode cX10_landing 1 = .ok (.getfield 10, 3) := by decide +kernel
theorem dX10_landing_4 : decode cX10_landing 4 = .ok (.iload_n 1, 1) := by decide +kernel
theorem dX10_landing_5 : decode cX10_landing 5 = .ok (.invokevirtual 113, 3) := by decide +kernel
theorem dX10_landing_8 : decode cX10_landing 8 = .ok (.astore_n 3, 1) := by decide +kernel
theorem dX10_landing_9 : decode cX10_landing 9 = .ok (.aload_n 3, 1) := by decide +kernel
theorem dX10_landing_10 : decode cX10_landing 10 = .ok (.ifnonnull 6, 3) := by decide +kernel
theorem dX10_landing_13 : decode cX10_landing 13 = .ok (.bipush (-2), 2) := by decide +kernel
theorem dX10_landing_15 : decode cX10_landing 15 = .ok (.ireturn, 1) := by decide +kernel
theorem dX10_landing_16 : decode cX10_landing 16 = .ok (.aload_n 3, 1) := by decide +kernel
theorem dX10_landing_17 : decode cX10_landing 17 = .ok (.invokevirtual 324, 3) := by decide +kernel
theorem dX10_landing_20 : decode cX10_landing 20 = .ok (.istore 4, 2) := by decide +kernel
theorem dX10_landing_22 : decode cX10_landing 22 = .ok (.iload_n 2, 1) := by decide +kernel
theorem dX10_landing_23 : decode cX10_landing 23 = .ok (.ifCond .eq 12, 3) := by decide +kernel
theorem dX10_landing_26 : decode cX10_landing 26 = .ok (.aload_n 3, 1) := by decide +kernel
theorem dX10_landing_27 : decode cX10_landing 27 = .ok (.iload 4, 2) := by decide +kernel
theorem dX10_landing_29 : decode cX10_landing 29 = .ok (.invokevirtual 294, 3) := by decide +kernel
theorem dX10_landing_32 : decode cX10_landing 32 = .ok (.goto 5, 3) := by decide +kernel
theorem dX10_landing_35 : decode cX10_landing 35 = .ok (.iload 4, 2) := by decide +kernel
theorem dX10_landing_37 : decode cX10_landing 37 = .ok (.ireturn, 1) := by decide +kernel
theorem dX10_count_0 : decode cX10_count 0 = .ok (.iload_n 1, 1) := by decide +kernel
theorem dX10_count_1 : decode cX10_count 1 = .ok (.ifCond .lt 8, 3) := by decide +kernel
theorem dX10_count_4 : decode cX10_count 4 = .ok (.iload_n 1, 1) := by decide +kernel
theorem dX10_count_5 : decode cX10_count 5 = .ok (.iconst 3, 1) := by decide +kernel
theorem dX10_count_6 : decode cX10_count 6 = .ok (.if_icmp .lt 8, 3) := by decide +kernel
theorem dX10_count_9 : decode cX10_count 9 = .ok (.bipush (-2), 2) := by decide +kernel
theorem dX10_count_11 : decode cX10_count 11 = .ok (.goto 12, 3) := by decide +kernel
theorem dX10_count_14 : decode cX10_count 14 = .ok (.aload_n 0, 1) := by decide +kernel
theorem dX10_count_15 : decode cX10_count 15 = .ok (.getfield 10, 3) := by decide +kernel
theorem dX10_count_18 : decode cX10_count 18 = .ok (.getfield 327, 3) := by decide +kernel
theorem dX10_count_21 : decode cX10_count 21 = .ok (.iload_n 1, 1) := by decide +kernel
theorem dX10_count_22 : decode cX10_count 22 = .ok (.iaload, 1) := by decide +kernel
theorem dX10_count_23 : decode cX10_count 23 = .ok (.ireturn, 1) := by decide +kernel
theorem dX10_image_0 : decode cX10_image 0 = .ok (.iload_n 1, 1) := by decide +kernel
theorem dX10_image_1 : decode cX10_image 1 = .ok (.ifCond .lt 8, 3) := by decide +kernel
theorem dX10_image_4 : decode cX10_image 4 = .ok (.iload_n 1, 1) := by decide +kernel
theorem dX10_image_5 : decode cX10_image 5 = .ok (.iconst 3, 1) := by decide +kernel
theorem dX10_image_6 : decode cX10_image 6 = .ok (.if_icmp .lt 5, 3) := by decide +kernel
theorem dX10_image_9 : decode cX10_image 9 = .ok (.iconst 0, 1) := by decide +kernel
theorem dX10_image_10 : decode cX10_image 10 = .ok (.ireturn, 1) := by decide +kernel
theorem dX10_image_11 : decode cX10_image 11 = .ok (.aload_n 0, 1) := by decide +kernel
theorem dX10_image_12 : decode cX10_image 12 = .ok (.getfield 16, 3) := by decide +kernel
theorem dX10_image_15 : decode cX10_image 15 = .ok (.iload_n 1, 1) := by decide +kernel
theorem dX10_image_16 : decode cX10_image 16 = .ok (.aaload, 1) := by decide +kernel
theorem dX10_image_17 : decode cX10_image 17 = .ok (.aload_n 0, 1) := by decide +kernel
theorem dX10_image_18 : decode cX10_image 18 = .ok (.getfield 10, 3) := by decide +kernel
theorem dX10_image_21 : decode cX10_image 21 = .ok (.invokevirtual 331, 3) := by decide +kernel
theorem dX10_image_24 : decode cX10_image 24 = .ok (.aload_n 0, 1) := by decide +kernel
theorem dX10_image_25 : decode cX10_image 25 = .ok (.getfield 20, 3) := by decide +kernel
theorem dX10_image_28 : decode cX10_image 28 = .ok (.iload_n 1, 1) := by decide +kernel
theorem dX10_image_29 : decode cX10_image 29 = .ok (.iconst 1, 1) := by decide +kernel
theorem dX10_image_30 : decode cX10_image 30 = .ok (.bastore, 1) := by decide +kernel
theorem dX10_image_31 : decode cX10_image 31 = .ok (.iconst 1, 1) := by decide +kernel
theorem dX10_image_32 : decode cX10_image 32 = .ok (.ireturn, 1) := by decide +kernel
theorem dX10_again_0 : decode cX10_again 0 = .ok (.iload_n 1, 1) := by decide +kernel
theorem dX10_again_1 : decode cX10_again 1 = .ok (.ifCond .lt 17, 3) := by decide +kernel
theorem dX10_again_4 : decode cX10_again 4 = .ok (.iload_n 1, 1) := by decide +kernel
theorem dX10_again_5 : decode cX10_again 5 = .ok (.iconst 3, 1) := by decide +kernel
theorem dX10_again_6 : decode cX10_again 6 = .ok (.if_icmp .ge 12, 3) := by decide +kernel
theorem dX10_again_9 : decode cX10_again 9 = .ok (.aload_n 0, 1) := by decide +kernel
theorem dX10_again_10 : decode cX10_again 10 = .ok (.getfield 20, 3) := by decide +kernel
theorem dX10_again_13 : decode cX10_again 13 = .ok (.iload_n 1, 1) := by decide +kernel
theorem dX10_again_14 : decode cX10_again 14 = .ok (.baload, 1) := by decide +kernel
theorem dX10_again_15 : decode cX10_again 15 = .ok (.ifCond .ne 5, 3) := by decide +kernel
theorem dX10_again_18 : decode cX10_again 18 = .ok (.iconst 0, 1) := by decide +kernel
theorem dX10_again_19 : decode cX10_again 19 = .ok (.ireturn, 1) := by decide +kernel
theorem dX10_again_20 : decode cX10_again 20 = .ok (.aload_n 0, 1) := by decide +kernel
theorem dX10_again_21 : decode cX10_again 21 = .ok (.getfield 10, 3) := by decide +kernel
theorem dX10_again_24 : decode cX10_again 24 = .ok (.aload_n 0, 1) := by decide +kernel
theorem dX10_again_25 : decode cX10_again 25 = .ok (.getfield 16, 3) := by decide +kernel
theorem dX10_again_28 : decode cX10_again 28 = .ok (.iload_n 1, 1) := by decide +kernel
theorem dX10_again_29 : decode cX10_again 29 = .ok (.aaload, 1) := by decide +kernel
theorem dX10_again_30 : decode cX10_again 30 = .ok (.invokevirtual 331, 3) := by decide +kernel
theorem dX10_again_33 : decode cX10_again 33 = .ok (.iconst 1, 1) := by decide +kernel
theorem dX10_again_34 : decode cX10_again 34 = .ok (.ireturn, 1) := by decide +kernel
