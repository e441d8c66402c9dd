theorem dX1_clear_0 : decode cX1_clear 0 = .ok (.aload_n 0, 1) := by decide +kernel
theorem dX1_clear_1 : decode cX1_clear 1 = .ok (.iconst 0, 1) := by decide +kernel
theorem dX1_clear_2 : decode cX1_clear 2 = .ok (.putfield 9, 3) := by decide +kernel
theorem dX1_clear_5 : decode cX1_clear 5 = .ok (.aload_n 0, 1) := by decide +kernel
theorem dX1_clear_6 : decode cX1_clear 6 = .ok (.iconst 0, 1) := by decide +kernel
theorem dX1_clear_7 : decode cX1_clear 7 = .ok (.putfield 15, 3) := by decide +kernel
theorem dX1_clear_10 : decode cX1_clear 10 = .ok (.aload_n 0, 1) := by decide +kernel
theorem dX1_clear_11 : decode cX1_clear 11 = .ok (.iconst 0, 1) := by decide +kernel
theorem dX1_clear_12 : decode cX1_clear 12 = .ok (.putfield 18, 3) := by decide +kernel
theorem dX1_clear_15 : decode cX1_clear 15 = .ok (.aload_n 0, 1) := by decide +kernel
theorem dX1_clear_16 : decode cX1_clear 16 = .ok (.bipush 9, 2) := by decide +kernel
theorem dX1_clear_18 : decode cX1_clear 18 = .ok (.putfield 21, 3) := by decide +kernel
theorem dX1_clear_21 : decode cX1_clear 21 = .ok (.aload_n 0, 1) := by decide +kernel
theorem dX1_clear_22 : decode cX1_clear 22 = .ok (.iconst 0, 1) := by decide +kernel
theorem dX1_clear_23 : decode cX1_clear 23 = .ok (.putfield 24, 3) := by decide +kernel
theorem dX1_clear_26 : decode cX1_clear 26 = .ok (.return_, 1) := by decide +kernel
theorem dX1_copy_0 : decode cX1_copy 0 = .ok (.aload_n 0, 1) := by decide +kernel
theorem dX1_copy_1 : decode cX1_copy 1 = .ok (.aload_n 1, 1) := by decide +kernel
theorem dX1_copy_2 : decode cX1_copy 2 = .ok (.getfield 9, 3) := by decide +kernel
theorem dX1_copy_5 : decode cX1_copy 5 = .ok (.putfield 9, 3) := by decide +kernel
theorem dX1_copy_8 : decode cX1_copy 8 = .ok (.aload_n 0, 1) := by decide +kernel
theorem dX1_copy_9 : decode cX1_copy 9 = .ok (.aload_n 1, 1) := by decide +kernel
theorem dX1_copy_10 : decode cX1_copy 10 = .ok (.getfield 15, 3) := by decide +kernel
theorem dX1_copy_13 : decode cX1_copy 13 = .ok (.putfield 15, 3) := by decide +kernel
theorem dX1_copy_16 : decode cX1_copy 16 = .ok (.aload_n 0, 1) := by decide +kernel
theorem dX1_copy_17 : decode cX1_copy 17 = .ok (.aload_n 1, 1) := by decide +kernel
theorem dX1_copy_18 : decode cX1_copy 18 = .ok (.getfield 18, 3) := by decide +kernel
theorem dX1_copy_21 : decode cX1_copy 21 = .ok (.putfield 18, 3) := by decide +kernel
theorem dX1_copy_24 : decode cX1_copy 24 = .ok (.aload_n 0, 1) := by decide +kernel
theorem dX1_copy_25 : decode cX1_copy 25 = .ok (.aload_n 1, 1) := by decide +kernel
theorem dX1_copy_26 : decode cX1_copy 26 = .ok (.getfield 21, 3) := by decide +kernel
theorem dX1_copy_29 : decode cX1_copy 29 = .ok (.putfield 21, 3) := by decide +kernel
theorem dX1_copy_32 : decode cX1_copy 32 = .ok (.aload_n 0, 1) := by decide +kernel
theorem dX1_copy_33 : decode cX1_copy 33 = .ok (.aload_n 1, 1) := by decide +kernel
theorem dX1_copy_34 : decode cX1_copy 34 = .ok (.getfield 24, 3) := by decide +kernel
theorem dX1_copy_37 : decode cX1_copy 37 = .ok (.putfield 24, 3) := by decide +kernel
theorem dX1_copy_40 : decode cX1_copy 40 = .ok (.aload_n 1, 1) := by decide +kernel
theorem dX1_copy_41 : decode cX1_copy 41 = .ok (.getfield 27, 3) := by decide +kernel
theorem dX1_copy_44 : decode cX1_copy 44 = .ok (.iconst 0, 1) := by decide +kernel
theorem dX1_copy_45 : decode cX1_copy 45 = .ok (.aload_n 0, 1) := by decide +kernel
theorem dX1_copy_46 : decode cX1_copy 46 = .ok (.getfield 27, 3) := by decide +kernel
theorem dX1_copy_49 : decode cX1_copy 49 = .ok (.iconst 0, 1) := by decide +kernel
theorem dX1_copy_50 : decode cX1_copy 50 = .ok (.bipush 6, 2) := by decide +kernel
theorem dX1_copy_52 : decode cX1_copy 52 = .ok (.invokestatic 55, 3) := by decide +kernel
theorem dX1_copy_55 : decode cX1_copy 55 = .ok (.aload_n 1, 1) := by decide +kernel
theorem dX1_copy_56 : decode cX1_copy 56 = .ok (.getfield 31, 3) := by decide +kernel
theorem dX1_copy_59 : decode cX1_copy 59 = .ok (.iconst 0, 1) := by decide +kernel
theorem dX1_copy_60 : decode cX1_copy 60 = .ok (.aload_n 0, 1) := by decide +kernel
theorem dX1_copy_61 : decode cX1_copy 61 = .ok (.getfield 31, 3) := by decide +kernel
theorem dX1_copy_64 : decode cX1_copy 64 = .ok (.iconst 0, 1) := by decide +kernel
theorem dX1_copy_65 : decode cX1_copy 65 = .ok (.bipush 6, 2) := by decide +kernel
theorem dX1_copy_67 : decode cX1_copy 67 = .ok (.invokestatic 55, 3) := by decide +kernel
theorem dX1_copy_70 : decode cX1_copy 70 = .ok (.aload_n 1, 1) := by decide +kernel
theorem dX1_copy_71 : decode cX1_copy 71 = .ok (.getfield 34, 3) := by decide +kernel
theorem dX1_copy_74 : decode cX1_copy 74 = .ok (.iconst 0, 1) := by decide +kernel
theorem dX1_copy_75 : decode cX1_copy 75 = .ok (.aload_n 0, 1) := by decide +kernel
theorem dX1_copy_76 : decode cX1_copy 76 = .ok (.getfield 34, 3) := by decide +kernel
theorem dX1_copy_79 : decode cX1_copy 79 = .ok (.iconst 0, 1) := by decide +kernel
theorem dX1_copy_80 : decode cX1_copy 80 = .ok (.bipush 8, 2) := by decide +kernel
theorem dX1_copy_82 : decode cX1_copy 82 = .ok (.invokestatic 55, 3) := by decide +kernel
theorem dX1_copy_85 : decode cX1_copy 85 = .ok (.aload_n 1, 1) := by decide +kernel
theorem dX1_copy_86 : decode cX1_copy 86 = .ok (.getfield 37, 3) := by decide +kernel
theorem dX1_copy_89 : decode cX1_copy 89 = .ok (.iconst 0, 1) := by decide +kernel
theorem dX1_copy_90 : decode cX1_copy 90 = .ok (.aload_n 0, 1) := by decide +kernel
theorem dX1_copy_91 : decode cX1_copy 91 = .ok (.getfield 37, 3) := by decide +kernel
theorem dX1_copy_94 : decode cX1_copy 94 = .ok (.iconst 0, 1) := by decide +kernel
theorem dX1_copy_95 : decode cX1_copy 95 = .ok (.bipush 8, 2) := by decide +kernel
theorem dX1_copy_97 : decode cX1_copy 97 = .ok (.invokestatic 55, 3) := by decide +kernel
theorem dX1_copy_100 : decode cX1_copy 100 = .ok (.aload_n 1, 1) := by decide +kernel
theorem dX1_copy_101 : decode cX1_copy 101 = .ok (.getfield 40, 3) := by decide +kernel
theorem dX1_copy_104 : decode cX1_copy 104 = .ok (.iconst 0, 1) := by decide +kernel
theorem dX1_copy_105 : decode cX1_copy 105 = .ok (.aload_n 0, 1) := by decide +kernel
theorem dX1_copy_106 : decode cX1_copy 106 = .ok (.getfield 40, 3) := by decide +kernel
theorem dX1_copy_109 : decode cX1_copy 109 = .ok (.iconst 0, 1) := by decide +kernel
theorem dX1_copy_110 : decode cX1_copy 110 = .ok (.bipush 8, 2) := by decide +kernel
theorem dX1_copy_112 : decode cX1_copy 112 = .ok (.invokestatic 55, 3) := by decide +kernel
theorem dX1_copy_115 : decode cX1_copy 115 = .ok (.aload_n 1, 1) := by decide +kernel
theorem dX1_copy_116 : decode cX1_copy 116 = .ok (.getfield 43, 3) := by decide +kernel
theorem dX1_copy_119 : decode cX1_copy 119 = .ok (.iconst 0, 1) := by decide +kernel
theorem dX1_copy_120 : decode cX1_copy 120 = .ok (.aload_n 0, 1) := by decide +kernel
theorem dX1_copy_121 : decode cX1_copy 121 = .ok (.getfield 43, 3) := by decide +kernel
theorem dX1_copy_124 : decode cX1_copy 124 = .ok (.iconst 0, 1) := by decide +kernel
theorem dX1_copy_125 : decode cX1_copy 125 = .ok (.bipush 8, 2) := by decide +kernel
theorem dX1_copy_127 : decode cX1_copy 127 = .ok (.invokestatic 55, 3) := by decide +kernel
theorem dX1_copy_130 : decode cX1_copy 130 = .ok (.aload_n 1, 1) := by decide +kernel
theorem dX1_copy_131 : decode cX1_copy 131 = .ok (.getfield 46, 3) := by decide +kernel
theorem dX1_copy_134 : decode cX1_copy 134 = .ok (.iconst 0, 1) := by decide +kernel
theorem dX1_copy_135 : decode cX1_copy 135 = .ok (.aload_n 0, 1) := by decide +kernel
theorem dX1_copy_136 : decode cX1_copy 136 = .ok (.getfield 46, 3) := by decide +kernel
theorem dX1_copy_139 : decode cX1_copy 139 = .ok (.iconst 0, 1) := by decide +kernel
theorem dX1_copy_140 : decode cX1_copy 140 = .ok (.iconst 5, 1) := by decide +kernel
theorem dX1_copy_141 : decode cX1_copy 141 = .ok (.invokestatic 55, 3) := by decide +kernel
theorem dX1_copy_144 : decode cX1_copy 144 = .ok (.aload_n 1, 1) := by decide +kernel
theorem dX1_copy_145 : decode cX1_copy 145 = .ok (.getfield 49, 3) := by decide +kernel
theorem dX1_copy_148 : decode cX1_copy 148 = .ok (.iconst 0, 1) := by decide +kernel
theorem dX1_copy_149 : decode cX1_copy 149 = .ok (.aload_n 0, 1) := by decide +kernel
theorem dX1_copy_150 : decode cX1_copy 150 = .ok (.getfield 49, 3) := by decide +kernel
theorem dX1_copy_153 : decode cX1_copy 153 = .ok (.iconst 0, 1) := by decide +kernel
theorem dX1_copy_154 : decode cX1_copy 154 = .ok (.iconst 5, 1) := by decide +kernel
theorem dX1_copy_155 : decode cX1_copy 155 = .ok (.invokestatic 55, 3) := by decide +kernel
theorem dX1_copy_158 : decode cX1_copy 158 = .ok (.aload_n 1, 1) := by decide +kernel
theorem dX1_copy_159 : decode cX1_copy 159 = .ok (.getfield 52, 3) := by decide +kernel
theorem dX1_copy_162 : decode cX1_copy 162 = .ok (.iconst 0, 1) := by decide +kernel
theorem dX1_copy_163 : decode cX1_copy 163 = .ok (.aload_n 0, 1) := by decide +kernel
theorem dX1_copy_164 : decode cX1_copy 164 = .ok (.getfield 52, 3) := by decide +kernel
theorem dX1_copy_167 : decode cX1_copy 167 = .ok (.iconst 0, 1) := by decide +kernel
theorem dX1_copy_168 : decode cX1_copy 168 = .ok (.iconst 5, 1) := by decide +kernel
theorem dX1_copy_169 : decode cX1_copy 169 = .ok (.invokestatic 55, 3) := by decide +kernel
theorem dX1_copy_172 : decode cX1_copy 172 = .ok (.return_, 1) := by decide +kernel
theorem dX1_addFloor_0 : decode cX1_addFloor 0 = .ok (.aload_n 0, 1) := by decide +kernel
theorem dX1_addFloor_1 : decode cX1_addFloor 1 = .ok (.getfield 9, 3) := by decide +kernel
theorem dX1_addFloor_4 : decode cX1_addFloor 4 = .ok (.ifCond .lt 42, 3) := by decide +kernel
theorem dX1_addFloor_7 : decode cX1_addFloor 7 = .ok (.aload_n 0, 1) := by decide +kernel
theorem dX1_addFloor_8 : decode cX1_addFloor 8 = .ok (.getfield 9, 3) := by decide +kernel
theorem dX1_addFloor_11 : decode cX1_addFloor 11 = .ok (.bipush 6, 2) := by decide +kernel
theorem dX1_addFloor_13 : decode cX1_addFloor 13 = .ok (.if_icmp .ge 33, 3) := by decide +kernel
theorem dX1_addFloor_16 : decode cX1_addFloor 16 = .ok (.aload_n 0, 1) := by decide +kernel
theorem dX1_addFloor_17 : decode cX1_addFloor 17 = .ok (.getfield 27, 3) := by decide +kernel
theorem dX1_addFloor_20 : decode cX1_addFloor 20 = .ok (.aload_n 0, 1) := by decide +kernel
theorem dX1_addFloor_21 : decode cX1_addFloor 21 = .ok (.getfield 9, 3) := by decide +kernel
theorem dX1_addFloor_24 : decode cX1_addFloor 24 = .ok (.iload_n 1, 1) := by decide +kernel
theorem dX1_addFloor_25 : decode cX1_addFloor 25 = .ok (.iastore, 1) := by decide +kernel
theorem dX1_addFloor_26 : decode cX1_addFloor 26 = .ok (.aload_n 0, 1) := by decide +kernel
theorem dX1_addFloor_27 : decode cX1_addFloor 27 = .ok (.getfield 31, 3) := by decide +kernel
theorem dX1_addFloor_30 : decode cX1_addFloor 30 = .ok (.aload_n 0, 1) := by decide +kernel
theorem dX1_addFloor_31 : decode cX1_addFloor 31 = .ok (.getfield 9, 3) := by decide +kernel
theorem dX1_addFloor_34 : decode cX1_addFloor 34 = .ok (.iload_n 2, 1) := by decide +kernel
theorem dX1_addFloor_35 : decode cX1_addFloor 35 = .ok (.iastore, 1) := by decide +kernel
theorem dX1_addFloor_36 : decode cX1_addFloor 36 = .ok (.aload_n 0, 1) := by decide +kernel
theorem dX1_addFloor_37 : decode cX1_addFloor 37 = .ok (.dup, 1) := by decide +kernel
theorem dX1_addFloor_38 : decode cX1_addFloor 38 = .ok (.getfield 9, 3) := by decide +kernel
theorem dX1_addFloor_41 : decode cX1_addFloor 41 = .ok (.iconst 1, 1) := by decide +kernel
theorem dX1_addFloor_42 : decode cX1_addFloor 42 = .ok (.iadd, 1) := by decide +kernel
theorem dX1_addFloor_43 : decode cX1_addFloor 43 = .ok (.putfield 9, 3) := by decide +kernel
theorem dX1_addFloor_46 : decode cX1_addFloor 46 = .ok (.return_, 1) := by decide +kernel
theorem dX1_addBar_0 : decode cX1_addBar 0 = .ok (.aload_n 0, 1) := by decide +kernel
theorem dX1_addBar_1 : decode cX1_addBar 1 = .ok (.getfield 15, 3) := by decide +kernel
theorem dX1_addBar_4 : decode cX1_addBar 4 = .ok (.ifCond .lt 63, 3) := by decide +kernel
theorem dX1_addBar_7 : decode cX1_addBar 7 = .ok (.aload_n 0, 1) := by decide +kernel
theorem dX1_addBar_8 : decode cX1_addBar 8 = .ok (.getfield 15, 3) := by decide +kernel
theorem dX1_addBar_11 : decode cX1_addBar 11 = .ok (.bipush 8, 2) := by decide +kernel
theorem dX1_addBar_13 : decode cX1_addBar 13 = .ok (.if_icmp .ge 54, 3) := by decide +kernel
theorem dX1_addBar_16 : decode cX1_addBar 16 = .ok (.aload_n 0, 1) := by decide +kernel
theorem dX1_addBar_17 : decode cX1_addBar 17 = .ok (.getfield 34, 3) := by decide +kernel
theorem dX1_addBar_20 : decode cX1_addBar 20 = .ok (.aload_n 0, 1) := by decide +kernel
theorem dX1_addBar_21 : decode cX1_addBar 21 = .ok (.getfield 15, 3) := by decide +kernel
theorem dX1_addBar_24 : decode cX1_addBar 24 = .ok (.iload_n 1, 1) := by decide +kernel
theorem dX1_addBar_25 : decode cX1_addBar 25 = .ok (.iastore, 1) := by decide +kernel
theorem dX1_addBar_26 : decode cX1_addBar 26 = .ok (.aload_n 0, 1) := by decide +kernel
theorem dX1_addBar_27 : decode cX1_addBar 27 = .ok (.getfield 37, 3) := by decide +kernel
theorem dX1_addBar_30 : decode cX1_addBar 30 = .ok (.aload_n 0, 1) := by decide +kernel
theorem dX1_addBar_31 : decode cX1_addBar 31 = .ok (.getfield 15, 3) := by decide +kernel
theorem dX1_addBar_34 : decode cX1_addBar 34 = .ok (.iload_n 2, 1) := by decide +kernel
theorem dX1_addBar_35 : decode cX1_addBar 35 = .ok (.iastore, 1) := by decide +kernel
theorem dX1_addBar_36 : decode cX1_addBar 36 = .ok (.aload_n 0, 1) := by decide +kernel
theorem dX1_addBar_37 : decode cX1_addBar 37 = .ok (.getfield 40, 3) := by decide +kernel
theorem dX1_addBar_40 : decode cX1_addBar 40 = .ok (.aload_n 0, 1) := by decide +kernel
theorem dX1_addBar_41 : decode cX1_addBar 41 = .ok (.getfield 15, 3) := by decide +kernel
theorem dX1_addBar_44 : decode cX1_addBar 44 = .ok (.iload_n 3, 1) := by decide +kernel
theorem dX1_addBar_45 : decode cX1_addBar 45 = .ok (.iastore, 1) := by decide +kernel
theorem dX1_addBar_46 : decode cX1_addBar 46 = .ok (.aload_n 0, 1) := by decide +kernel
theorem dX1_addBar_47 : decode cX1_addBar 47 = .ok (.getfield 43, 3) := by decide +kernel
theorem dX1_addBar_50 : decode cX1_addBar 50 = .ok (.aload_n 0, 1) := by decide +kernel
theorem dX1_addBar_51 : decode cX1_addBar 51 = .ok (.getfield 15, 3) := by decide +kernel
theorem dX1_addBar_54 : decode cX1_addBar 54 = .ok (.iload 4, 2) := by decide +kernel
theorem dX1_addBar_56 : decode cX1_addBar 56 = .ok (.iastore, 1) := by decide +kernel
theorem dX1_addBar_57 : decode cX1_addBar 57 = .ok (.aload_n 0, 1) := by decide +kernel
theorem dX1_addBar_58 : decode cX1_addBar 58 = .ok (.dup, 1) := by decide +kernel
theorem dX1_addBar_59 : decode cX1_addBar 59 = .ok (.getfield 15, 3) := by decide +kernel
theorem dX1_addBar_62 : decode cX1_addBar 62 = .ok (.iconst 1, 1) := by decide +kernel
theorem dX1_addBar_63 : decode cX1_addBar 63 = .ok (.iadd, 1) := by decide +kernel
theorem dX1_addBar_64 : decode cX1_addBar 64 = .ok (.putfield 15, 3) := by decide +kernel
theorem dX1_addBar_67 : decode cX1_addBar 67 = .ok (.return_, 1) := by decide +kernel
theorem dX1_addSinger_0 : decode cX1_addSinger 0 = .ok (.aload_n 0, 1) := by decide +kernel
theorem dX1_addSinger_1 : decode cX1_addSinger 1 = .ok (.getfield 18, 3) := by decide +kernel
theorem dX1_addSinger_4 : decode cX1_addSinger 4 = .ok (.ifCond .lt 51, 3) := by decide +kernel
theorem dX1_addSinger_7 : decode cX1_addSinger 7 = .ok (.aload_n 0, 1) := by decide +kernel
theorem dX1_addSinger_8 : decode cX1_addSinger 8 = .ok (.getfield 18, 3) := by decide +kernel
theorem dX1_addSinger_11 : decode cX1_addSinger 11 = .ok (.iconst 5, 1) := by decide +kernel
theorem dX1_addSinger_12 : decode cX1_addSinger 12 = .ok (.if_icmp .ge 43, 3) := by decide +kernel
theorem dX1_addSinger_15 : decode cX1_addSinger 15 = .ok (.aload_n 0, 1) := by decide +kernel
theorem dX1_addSinger_16 : decode cX1_addSinger 16 = .ok (.getfield 46, 3) := by decide +kernel
theorem dX1_addSinger_19 : decode cX1_addSinger 19 = .ok (.aload_n 0, 1) := by decide +kernel
theorem dX1_addSinger_20 : decode cX1_addSinger 20 = .ok (.getfield 18, 3) := by decide +kernel
theorem dX1_addSinger_23 : decode cX1_addSinger 23 = .ok (.iload_n 1, 1) := by decide +kernel
theorem dX1_addSinger_24 : decode cX1_addSinger 24 = .ok (.iastore, 1) := by decide +kernel
theorem dX1_addSinger_25 : decode cX1_addSinger 25 = .ok (.aload_n 0, 1) := by decide +kernel
theorem dX1_addSinger_26 : decode cX1_addSinger 26 = .ok (.getfield 49, 3) := by decide +kernel
theorem dX1_addSinger_29 : decode cX1_addSinger 29 = .ok (.aload_n 0, 1) := by decide +kernel
theorem dX1_addSinger_30 : decode cX1_addSinger 30 = .ok (.getfield 18, 3) := by decide +kernel
theorem dX1_addSinger_33 : decode cX1_addSinger 33 = .ok (.iload_n 2, 1) := by decide +kernel
theorem dX1_addSinger_34 : decode cX1_addSinger 34 = .ok (.iastore, 1) := by decide +kernel
theorem dX1_addSinger_35 : decode cX1_addSinger 35 = .ok (.aload_n 0, 1) := by decide +kernel
theorem dX1_addSinger_36 : decode cX1_addSinger 36 = .ok (.getfield 52, 3) := by decide +kernel
theorem dX1_addSinger_39 : decode cX1_addSinger 39 = .ok (.aload_n 0, 1) := by decide +kernel
theorem dX1_addSinger_40 : decode cX1_addSinger 40 = .ok (.getfield 18, 3) := by decide +kernel
theorem dX1_addSinger_43 : decode cX1_addSinger 43 = .ok (.iload_n 3, 1) := by decide +kernel
theorem dX1_addSinger_44 : decode cX1_addSinger 44 = .ok (.iastore, 1) := by decide +kernel
theorem dX1_addSinger_45 : decode cX1_addSinger 45 = .ok (.aload_n 0, 1) := by decide +kernel
theorem dX1_addSinger_46 : decode cX1_addSinger 46 = .ok (.dup, 1) := by decide +kernel
theorem dX1_addSinger_47 : decode cX1_addSinger 47 = .ok (.getfield 18, 3) := by decide +kernel
theorem dX1_addSinger_50 : decode cX1_addSinger 50 = .ok (.iconst 1, 1) := by decide +kernel
theorem dX1_addSinger_51 : decode cX1_addSinger 51 = .ok (.iadd, 1) := by decide +kernel
theorem dX1_addSinger_52 : decode cX1_addSinger 52 = .ok (.putfield 18, 3) := by decide +kernel
theorem dX1_addSinger_55 : decode cX1_addSinger 55 = .ok (.return_, 1) := by decide +kernel
theorem dX1_hasFloor_0 : decode cX1_hasFloor 0 = .ok (.iload_n 1, 1) := by decide +kernel
theorem dX1_hasFloor_1 : decode cX1_hasFloor 1 = .ok (.ifCond .lt 21, 3) := by decide +kernel
theorem dX1_hasFloor_4 : decode cX1_hasFloor 4 = .ok (.iload_n 1, 1) := by decide +kernel
theorem dX1_hasFloor_5 : decode cX1_hasFloor 5 = .ok (.aload_n 0, 1) := by decide +kernel
theorem dX1_hasFloor_6 : decode cX1_hasFloor 6 = .ok (.getfield 9, 3) := by decide +kernel
theorem dX1_hasFloor_9 : decode cX1_hasFloor 9 = .ok (.if_icmp .ge 13, 3) := by decide +kernel
theorem dX1_hasFloor_12 : decode cX1_hasFloor 12 = .ok (.iload_n 1, 1) := by decide +kernel
theorem dX1_hasFloor_13 : decode cX1_hasFloor 13 = .ok (.bipush 6, 2) := by decide +kernel
theorem dX1_hasFloor_15 : decode cX1_hasFloor 15 = .ok (.if_icmp .ge 7, 3) := by decide +kernel
theorem dX1_hasFloor_18 : decode cX1_hasFloor 18 = .ok (.iconst 1, 1) := by decide +kernel
theorem dX1_hasFloor_19 : decode cX1_hasFloor 19 = .ok (.goto 4, 3) := by decide +kernel
theorem dX1_hasFloor_22 : decode cX1_hasFloor 22 = .ok (.iconst 0, 1) := by decide +kernel
theorem dX1_hasFloor_23 : decode cX1_hasFloor 23 = .ok (.ireturn, 1) := by decide +kernel
theorem dX1_hasBar_0 : decode cX1_hasBar 0 = .ok (.iload_n 1, 1) := by decide +kernel
theorem dX1_hasBar_1 : decode cX1_hasBar 1 = .ok (.ifCond .lt 21, 3) := by decide +kernel
theorem dX1_hasBar_4 : decode cX1_hasBar 4 = .ok (.iload_n 1, 1) := by decide +kernel
theorem dX1_hasBar_5 : decode cX1_hasBar 5 = .ok (.aload_n 0, 1) := by decide +kernel
theorem dX1_hasBar_6 : decode cX1_hasBar 6 = .ok (.getfield 15, 3) := by decide +kernel
theorem dX1_hasBar_9 : decode cX1_hasBar 9 = .ok (.if_icmp .ge 13, 3) := by decide +kernel
theorem dX1_hasBar_12 : decode cX1_hasBar 12 = .ok (.iload_n 1, 1) := by decide +kernel
theorem dX1_hasBar_13 : decode cX1_hasBar 13 = .ok (.bipush 8, 2) := by decide +kernel
theorem dX1_hasBar_15 : decode cX1_hasBar 15 = .ok (.if_icmp .ge 7, 3) := by decide +kernel
theorem dX1_hasBar_18 : decode cX1_hasBar 18 = .ok (.iconst 1, 1) := by decide +kernel
theorem dX1_hasBar_19 : decode cX1_hasBar 19 = .ok (.goto 4, 3) := by decide +kernel
theorem dX1_hasBar_22 : decode cX1_hasBar 22 = .ok (.iconst 0, 1) := by decide +kernel
theorem dX1_hasBar_23 : decode cX1_hasBar 23 = .ok (.ireturn, 1) := by decide +kernel
theorem dX1_hasSinger_0 : decode cX1_hasSinger 0 = .ok (.iload_n 1, 1) := by decide +kernel
theorem dX1_hasSinger_1 : decode cX1_hasSinger 1 = .ok (.ifCond .lt 20, 3) := by decide +kernel
theorem dX1_hasSinger_4 : decode cX1_hasSinger 4 = .ok (.iload_n 1, 1) := by decide +kernel
theorem dX1_hasSinger_5 : decode cX1_hasSinger 5 = .ok (.aload_n 0, 1) := by decide +kernel
theorem dX1_hasSinger_6 : decode cX1_hasSinger 6 = .ok (.getfield 18, 3) := by decide +kernel
theorem dX1_hasSinger_9 : decode cX1_hasSinger 9 = .ok (.if_icmp .ge 12, 3) := by decide +kernel
theorem dX1_hasSinger_12 : decode cX1_hasSinger 12 = .ok (.iload_n 1, 1) := by decide +kernel
theorem dX1_hasSinger_13 : decode cX1_hasSinger 13 = .ok (.iconst 5, 1) := by decide +kernel
theorem dX1_hasSinger_14 : decode cX1_hasSinger 14 = .ok (.if_icmp .ge 7, 3) := by decide +kernel
theorem dX1_hasSinger_17 : decode cX1_hasSinger 17 = .ok (.iconst 1, 1) := by decide +kernel
theorem dX1_hasSinger_18 : decode cX1_hasSinger 18 = .ok (.goto 4, 3) := by decide +kernel
theorem dX1_hasSinger_21 : decode cX1_hasSinger 21 = .ok (.iconst 0, 1) := by decide +kernel
theorem dX1_hasSinger_22 : decode cX1_hasSinger 22 = .ok (.ireturn, 1) := by decide +kernel
theorem dX1_isWhole_0 : decode cX1_isWhole 0 = .ok (.iconst 0, 1) := by decide +kernel
theorem dX1_isWhole_1 : decode cX1_isWhole 1 = .ok (.istore_n 1, 1) := by decide +kernel
theorem dX1_isWhole_2 : decode cX1_isWhole 2 = .ok (.iload_n 1, 1) := by decide +kernel
theorem dX1_isWhole_3 : decode cX1_isWhole 3 = .ok (.aload_n 0, 1) := by decide +kernel
theorem dX1_isWhole_4 : decode cX1_isWhole 4 = .ok (.getfield 15, 3) := by decide +kernel
theorem dX1_isWhole_7 : decode cX1_isWhole 7 = .ok (.if_icmp .ge 30, 3) := by decide +kernel
theorem dX1_isWhole_10 : decode cX1_isWhole 10 = .ok (.iload_n 1, 1) := by decide +kernel
theorem dX1_isWhole_11 : decode cX1_isWhole 11 = .ok (.bipush 8, 2) := by decide +kernel
theorem dX1_isWhole_13 : decode cX1_isWhole 13 = .ok (.if_icmp .ge 24, 3) := by decide +kernel
theorem dX1_isWhole_16 : decode cX1_isWhole 16 = .ok (.aload_n 0, 1) := by decide +kernel
theorem dX1_isWhole_17 : decode cX1_isWhole 17 = .ok (.getfield 40, 3) := by decide +kernel
theorem dX1_isWhole_20 : decode cX1_isWhole 20 = .ok (.iload_n 1, 1) := by decide +kernel
theorem dX1_isWhole_21 : decode cX1_isWhole 21 = .ok (.iaload, 1) := by decide +kernel
theorem dX1_isWhole_22 : decode cX1_isWhole 22 = .ok (.aload_n 0, 1) := by decide +kernel
theorem dX1_isWhole_23 : decode cX1_isWhole 23 = .ok (.getfield 9, 3) := by decide +kernel
theorem dX1_isWhole_26 : decode cX1_isWhole 26 = .ok (.if_icmp .lt 5, 3) := by decide +kernel
theorem dX1_isWhole_29 : decode cX1_isWhole 29 = .ok (.iconst 0, 1) := by decide +kernel
theorem dX1_isWhole_30 : decode cX1_isWhole 30 = .ok (.ireturn, 1) := by decide +kernel
theorem dX1_isWhole_31 : decode cX1_isWhole 31 = .ok (.iinc 1 1, 3) := by decide +kernel
theorem dX1_isWhole_34 : decode cX1_isWhole 34 = .ok (.goto (-32), 3) := by decide +kernel
theorem dX1_isWhole_37 : decode cX1_isWhole 37 = .ok (.aload_n 0, 1) := by decide +kernel
theorem dX1_isWhole_38 : decode cX1_isWhole 38 = .ok (.getfield 24, 3) := by decide +kernel
theorem dX1_isWhole_41 : decode cX1_isWhole 41 = .ok (.aload_n 0, 1) := by decide +kernel
theorem dX1_isWhole_42 : decode cX1_isWhole 42 = .ok (.getfield 15, 3) := by decide +kernel
theorem dX1_isWhole_45 : decode cX1_isWhole 45 = .ok (.ishr, 1) := by decide +kernel
theorem dX1_isWhole_46 : decode cX1_isWhole 46 = .ok (.ifCond .ne 7, 3) := by decide +kernel
theorem dX1_isWhole_49 : decode cX1_isWhole 49 = .ok (.iconst 1, 1) := by decide +kernel
theorem dX1_isWhole_50 : decode cX1_isWhole 50 = .ok (.goto 4, 3) := by decide +kernel
theorem dX1_isWhole_53 : decode cX1_isWhole 53 = .ok (.iconst 0, 1) := by decide +kernel
theorem dX1_isWhole_54 : decode cX1_isWhole 54 = .ok (.ireturn, 1) := by decide +kernel
theorem dX1_detail_0 : decode cX1_detail 0 = .ok (.iload_n 1, 1) := by decide +kernel
theorem dX1_detail_1 : decode cX1_detail 1 = .ok (.bipush 10, 2) := by decide +kernel
theorem dX1_detail_3 : decode cX1_detail 3 = .ok (.if_icmp .lt 9, 3) := by decide +kernel
theorem dX1_detail_6 : decode cX1_detail 6 = .ok (.iload_n 1, 1) := by decide +kernel
theorem dX1_detail_7 : decode cX1_detail 7 = .ok (.bipush 99, 2) := by decide +kernel
theorem dX1_detail_9 : decode cX1_detail 9 = .ok (.if_icmp .le 5, 3) := by decide +kernel
theorem dX1_detail_12 : decode cX1_detail 12 = .ok (.iconst (-1), 1) := by decide +kernel
theorem dX1_detail_13 : decode cX1_detail 13 = .ok (.ireturn, 1) := by decide +kernel
theorem dX1_detail_14 : decode cX1_detail 14 = .ok (.iload_n 1, 1) := by decide +kernel
theorem dX1_detail_15 : decode cX1_detail 15 = .ok (.bipush 10, 2) := by decide +kernel
theorem dX1_detail_17 : decode cX1_detail 17 = .ok (.irem, 1) := by decide +kernel
theorem dX1_detail_18 : decode cX1_detail 18 = .ok (.istore_n 2, 1) := by decide +kernel
theorem dX1_detail_19 : decode cX1_detail 19 = .ok (.iload_n 1, 1) := by decide +kernel
theorem dX1_detail_20 : decode cX1_detail 20 = .ok (.bipush 10, 2) := by decide +kernel
theorem dX1_detail_22 : decode cX1_detail 22 = .ok (.idiv, 1) := by decide +kernel
theorem dX1_detail_23 : decode cX1_detail 23 = .ok (.tableswitch 197 1 8 #[45, 64, 83, 102, 121, 140, 159, 178], 45) := by decide +kernel
theorem dX1_detail_68 : decode cX1_detail 68 = .ok (.aload_n 0, 1) := by decide +kernel
theorem dX1_detail_69 : decode cX1_detail 69 = .ok (.iload_n 2, 1) := by decide +kernel
theorem dX1_detail_70 : decode cX1_detail 70 = .ok (.invokevirtual 61, 3) := by decide +kernel
theorem dX1_detail_73 : decode cX1_detail 73 = .ok (.ifCond .eq 12, 3) := by decide +kernel
theorem dX1_detail_76 : decode cX1_detail 76 = .ok (.aload_n 0, 1) := by decide +kernel
theorem dX1_detail_77 : decode cX1_detail 77 = .ok (.getfield 27, 3) := by decide +kernel
theorem dX1_detail_80 : decode cX1_detail 80 = .ok (.iload_n 2, 1) := by decide +kernel
theorem dX1_detail_81 : decode cX1_detail 81 = .ok (.iaload, 1) := by decide +kernel
theorem dX1_detail_82 : decode cX1_detail 82 = .ok (.goto 4, 3) := by decide +kernel
theorem dX1_detail_85 : decode cX1_detail 85 = .ok (.iconst (-1), 1) := by decide +kernel
theorem dX1_detail_86 : decode cX1_detail 86 = .ok (.ireturn, 1) := by decide +kernel
theorem dX1_detail_87 : decode cX1_detail 87 = .ok (.aload_n 0, 1) := by decide +kernel
theorem dX1_detail_88 : decode cX1_detail 88 = .ok (.iload_n 2, 1) := by decide +kernel
theorem dX1_detail_89 : decode cX1_detail 89 = .ok (.invokevirtual 61, 3) := by decide +kernel
theorem dX1_detail_92 : decode cX1_detail 92 = .ok (.ifCond .eq 12, 3) := by decide +kernel
theorem dX1_detail_95 : decode cX1_detail 95 = .ok (.aload_n 0, 1) := by decide +kernel
theorem dX1_detail_96 : decode cX1_detail 96 = .ok (.getfield 31, 3) := by decide +kernel
theorem dX1_detail_99 : decode cX1_detail 99 = .ok (.iload_n 2, 1) := by decide +kernel
theorem dX1_detail_100 : decode cX1_detail 100 = .ok (.iaload, 1) := by decide +kernel
theorem dX1_detail_101 : decode cX1_detail 101 = .ok (.goto 4, 3) := by decide +kernel
theorem dX1_detail_104 : decode cX1_detail 104 = .ok (.iconst (-1), 1) := by decide +kernel
theorem dX1_detail_105 : decode cX1_detail 105 = .ok (.ireturn, 1) := by decide +kernel
theorem dX1_detail_106 : decode cX1_detail 106 = .ok (.aload_n 0, 1) := by decide +kernel
theorem dX1_detail_107 : decode cX1_detail 107 = .ok (.iload_n 2, 1) := by decide +kernel
theorem dX1_detail_108 : decode cX1_detail 108 = .ok (.invokevirtual 65, 3) := by decide +kernel
theorem dX1_detail_111 : decode cX1_detail 111 = .ok (.ifCond .eq 12, 3) := by decide +kernel
theorem dX1_detail_114 : decode cX1_detail 114 = .ok (.aload_n 0, 1) := by decide +kernel
theorem dX1_detail_115 : decode cX1_detail 115 = .ok (.getfield 34, 3) := by decide +kernel
theorem dX1_detail_118 : decode cX1_detail 118 = .ok (.iload_n 2, 1) := by decide +kernel
theorem dX1_detail_119 : decode cX1_detail 119 = .ok (.iaload, 1) := by decide +kernel
theorem dX1_detail_120 : decode cX1_detail 120 = .ok (.goto 4, 3) := by decide +kernel
theorem dX1_detail_123 : decode cX1_detail 123 = .ok (.iconst (-1), 1) := by decide +kernel
theorem dX1_detail_124 : decode cX1_detail 124 = .ok (.ireturn, 1) := by decide +kernel
theorem dX1_detail_125 : decode cX1_detail 125 = .ok (.aload_n 0, 1) := by decide +kernel
theorem dX1_detail_126 : decode cX1_detail 126 = .ok (.iload_n 2, 1) := by decide +kernel
theorem dX1_detail_127 : decode cX1_detail 127 = .ok (.invokevirtual 65, 3) := by decide +kernel
theorem dX1_detail_130 : decode cX1_detail 130 = .ok (.ifCond .eq 12, 3) := by decide +kernel
theorem dX1_detail_133 : decode cX1_detail 133 = .ok (.aload_n 0, 1) := by decide +kernel
theorem dX1_detail_134 : decode cX1_detail 134 = .ok (.getfield 37, 3) := by decide +kernel
theorem dX1_detail_137 : decode cX1_detail 137 = .ok (.iload_n 2, 1) := by decide +kernel
theorem dX1_detail_138 : decode cX1_detail 138 = .ok (.iaload, 1) := by decide +kernel
theorem dX1_detail_139 : decode cX1_detail 139 = .ok (.goto 4, 3) := by decide +kernel
theorem dX1_detail_142 : decode cX1_detail 142 = .ok (.iconst (-1), 1) := by decide +kernel
theorem dX1_detail_143 : decode cX1_detail 143 = .ok (.ireturn, 1) := by decide +kernel
theorem dX1_detail_144 : decode cX1_detail 144 = .ok (.aload_n 0, 1) := by decide +kernel
theorem dX1_detail_145 : decode cX1_detail 145 = .ok (.iload_n 2, 1) := by decide +kernel
theorem dX1_detail_146 : decode cX1_detail 146 = .ok (.invokevirtual 65, 3) := by decide +kernel
theorem dX1_detail_149 : decode cX1_detail 149 = .ok (.ifCond .eq 12, 3) := by decide +kernel
theorem dX1_detail_152 : decode cX1_detail 152 = .ok (.aload_n 0, 1) := by decide +kernel
theorem dX1_detail_153 : decode cX1_detail 153 = .ok (.getfield 40, 3) := by decide +kernel
theorem dX1_detail_156 : decode cX1_detail 156 = .ok (.iload_n 2, 1) := by decide +kernel
theorem dX1_detail_157 : decode cX1_detail 157 = .ok (.iaload, 1) := by decide +kernel
theorem dX1_detail_158 : decode cX1_detail 158 = .ok (.goto 4, 3) := by decide +kernel
theorem dX1_detail_161 : decode cX1_detail 161 = .ok (.iconst (-1), 1) := by decide +kernel
theorem dX1_detail_162 : decode cX1_detail 162 = .ok (.ireturn, 1) := by decide +kernel
theorem dX1_detail_163 : decode cX1_detail 163 = .ok (.aload_n 0, 1) := by decide +kernel
theorem dX1_detail_164 : decode cX1_detail 164 = .ok (.iload_n 2, 1) := by decide +kernel
theorem dX1_detail_165 : decode cX1_detail 165 = .ok (.invokevirtual 65, 3) := by decide +kernel
theorem dX1_detail_168 : decode cX1_detail 168 = .ok (.ifCond .eq 12, 3) := by decide +kernel
theorem dX1_detail_171 : decode cX1_detail 171 = .ok (.aload_n 0, 1) := by decide +kernel
theorem dX1_detail_172 : decode cX1_detail 172 = .ok (.getfield 43, 3) := by decide +kernel
theorem dX1_detail_175 : decode cX1_detail 175 = .ok (.iload_n 2, 1) := by decide +kernel
theorem dX1_detail_176 : decode cX1_detail 176 = .ok (.iaload, 1) := by decide +kernel
theorem dX1_detail_177 : decode cX1_detail 177 = .ok (.goto 4, 3) := by decide +kernel
theorem dX1_detail_180 : decode cX1_detail 180 = .ok (.iconst (-1), 1) := by decide +kernel
theorem dX1_detail_181 : decode cX1_detail 181 = .ok (.ireturn, 1) := by decide +kernel
theorem dX1_detail_182 : decode cX1_detail 182 = .ok (.aload_n 0, 1) := by decide +kernel
theorem dX1_detail_183 : decode cX1_detail 183 = .ok (.iload_n 2, 1) := by decide +kernel
theorem dX1_detail_184 : decode cX1_detail 184 = .ok (.invokevirtual 68, 3) := by decide +kernel
theorem dX1_detail_187 : decode cX1_detail 187 = .ok (.ifCond .eq 12, 3) := by decide +kernel
theorem dX1_detail_190 : decode cX1_detail 190 = .ok (.aload_n 0, 1) := by decide +kernel
theorem dX1_detail_191 : decode cX1_detail 191 = .ok (.getfield 46, 3) := by decide +kernel
theorem dX1_detail_194 : decode cX1_detail 194 = .ok (.iload_n 2, 1) := by decide +kernel
theorem dX1_detail_195 : decode cX1_detail 195 = .ok (.iaload, 1) := by decide +kernel
theorem dX1_detail_196 : decode cX1_detail 196 = .ok (.goto 4, 3) := by decide +kernel
theorem dX1_detail_199 : decode cX1_detail 199 = .ok (.iconst (-1), 1) := by decide +kernel
theorem dX1_detail_200 : decode cX1_detail 200 = .ok (.ireturn, 1) := by decide +kernel
theorem dX1_detail_201 : decode cX1_detail 201 = .ok (.aload_n 0, 1) := by decide +kernel
theorem dX1_detail_202 : decode cX1_detail 202 = .ok (.iload_n 2, 1) := by decide +kernel
theorem dX1_detail_203 : decode cX1_detail 203 = .ok (.invokevirtual 68, 3) := by decide +kernel
theorem dX1_detail_206 : decode cX1_detail 206 = .ok (.ifCond .eq 12, 3) := by decide +kernel
theorem dX1_detail_209 : decode cX1_detail 209 = .ok (.aload_n 0, 1) := by decide +kernel
theorem dX1_detail_210 : decode cX1_detail 210 = .ok (.getfield 49, 3) := by decide +kernel
theorem dX1_detail_213 : decode cX1_detail 213 = .ok (.iload_n 2, 1) := by decide +kernel
theorem dX1_detail_214 : decode cX1_detail 214 = .ok (.iaload, 1) := by decide +kernel
theorem dX1_detail_215 : decode cX1_detail 215 = .ok (.goto 4, 3) := by decide +kernel
theorem dX1_detail_218 : decode cX1_detail 218 = .ok (.iconst (-1), 1) := by decide +kernel
theorem dX1_detail_219 : decode cX1_detail 219 = .ok (.ireturn, 1) := by decide +kernel
theorem dX1_detail_220 : decode cX1_detail 220 = .ok (.aload_n 0, 1) := by decide +kernel
theorem dX1_detail_221 : decode cX1_detail 221 = .ok (.iload_n 2, 1) := by decide +kernel
theorem dX1_detail_222 : decode cX1_detail 222 = .ok (.invokevirtual 68, 3) := by decide +kernel
theorem dX1_detail_225 : decode cX1_detail 225 = .ok (.ifCond .eq 12, 3) := by decide +kernel
theorem dX1_detail_228 : decode cX1_detail 228 = .ok (.aload_n 0, 1) := by decide +kernel
theorem dX1_detail_229 : decode cX1_detail 229 = .ok (.getfield 52, 3) := by decide +kernel
theorem dX1_detail_232 : decode cX1_detail 232 = .ok (.iload_n 2, 1) := by decide +kernel
theorem dX1_detail_233 : decode cX1_detail 233 = .ok (.iaload, 1) := by decide +kernel
theorem dX1_detail_234 : decode cX1_detail 234 = .ok (.goto 4, 3) := by decide +kernel
theorem dX1_detail_237 : decode cX1_detail 237 = .ok (.iconst (-1), 1) := by decide +kernel
theorem dX1_detail_238 : decode cX1_detail 238 = .ok (.ireturn, 1) := by decide +kernel
theorem dX1_sounds_0 : decode cX1_sounds 0 = .ok (.aload_n 0, 1) := by decide +kernel
theorem dX1_sounds_1 : decode cX1_sounds 1 = .ok (.iload_n 1, 1) := by decide +kernel
theorem dX1_sounds_2 : decode cX1_sounds 2 = .ok (.invokevirtual 65, 3) := by decide +kernel
theorem dX1_sounds_5 : decode cX1_sounds 5 = .ok (.ifCond .eq 16, 3) := by decide +kernel
theorem dX1_sounds_8 : decode cX1_sounds 8 = .ok (.aload_n 0, 1) := by decide +kernel
theorem dX1_sounds_9 : decode cX1_sounds 9 = .ok (.getfield 34, 3) := by decide +kernel
theorem dX1_sounds_12 : decode cX1_sounds 12 = .ok (.iload_n 1, 1) := by decide +kernel
theorem dX1_sounds_13 : decode cX1_sounds 13 = .ok (.iaload, 1) := by decide +kernel
theorem dX1_sounds_14 : decode cX1_sounds 14 = .ok (.ifCond .eq 7, 3) := by decide +kernel
theorem dX1_sounds_17 : decode cX1_sounds 17 = .ok (.iconst 1, 1) := by decide +kernel
theorem dX1_sounds_18 : decode cX1_sounds 18 = .ok (.goto 4, 3) := by decide +kernel
theorem dX1_sounds_21 : decode cX1_sounds 21 = .ok (.iconst 0, 1) := by decide +kernel
theorem dX1_sounds_22 : decode cX1_sounds 22 = .ok (.ireturn, 1) := by decide +kernel
theorem dX1_nextFrom_0 : decode cX1_nextFrom 0 = .ok (.iload_n 1, 1) := by decide +kernel
theorem dX1_nextFrom_1 : decode cX1_nextFrom 1 = .ok (.istore_n 2, 1) := by decide +kernel
theorem dX1_nextFrom_2 : decode cX1_nextFrom 2 = .ok (.iload_n 2, 1) := by decide +kernel
theorem dX1_nextFrom_3 : decode cX1_nextFrom 3 = .ok (.aload_n 0, 1) := by decide +kernel
theorem dX1_nextFrom_4 : decode cX1_nextFrom 4 = .ok (.getfield 15, 3) := by decide +kernel
theorem dX1_nextFrom_7 : decode cX1_nextFrom 7 = .ok (.if_icmp .ge 19, 3) := by decide +kernel
theorem dX1_nextFrom_10 : decode cX1_nextFrom 10 = .ok (.aload_n 0, 1) := by decide +kernel
theorem dX1_nextFrom_11 : decode cX1_nextFrom 11 = .ok (.iload_n 2, 1) := by decide +kernel
theorem dX1_nextFrom_12 : decode cX1_nextFrom 12 = .ok (.invokevirtual 71, 3) := by decide +kernel
theorem dX1_nextFrom_15 : decode cX1_nextFrom 15 = .ok (.ifCond .eq 5, 3) := by decide +kernel
theorem dX1_nextFrom_18 : decode cX1_nextFrom 18 = .ok (.iload_n 2, 1) := by decide +kernel
theorem dX1_nextFrom_19 : decode cX1_nextFrom 19 = .ok (.ireturn, 1) := by decide +kernel
theorem dX1_nextFrom_20 : decode cX1_nextFrom 20 = .ok (.iinc 2 1, 3) := by decide +kernel
theorem dX1_nextFrom_23 : decode cX1_nextFrom 23 = .ok (.goto (-21), 3) := by decide +kernel
theorem dX1_nextFrom_26 : decode cX1_nextFrom 26 = .ok (.iconst (-1), 1) := by decide +kernel
theorem dX1_nextFrom_27 : decode cX1_nextFrom 27 = .ok (.ireturn, 1) := by decide +kernel
theorem dX1_reaches_0 : decode cX1_reaches 0 = .ok (.iload_n 1, 1) := by decide +kernel
theorem dX1_reaches_1 : decode cX1_reaches 1 = .ok (.ifCond .lt 50, 3) := by decide +kernel
theorem dX1_reaches_4 : decode cX1_reaches 4 = .ok (.iload_n 1, 1) := by decide +kernel
theorem dX1_reaches_5 : decode cX1_reaches 5 = .ok (.aload_n 0, 1) := by decide +kernel
theorem dX1_reaches_6 : decode cX1_reaches 6 = .ok (.getfield 18, 3) := by decide +kernel
theorem dX1_reaches_9 : decode cX1_reaches 9 = .ok (.if_icmp .ge 42, 3) := by decide +kernel
theorem dX1_reaches_12 : decode cX1_reaches 12 = .ok (.iload_n 1, 1) := by decide +kernel
theorem dX1_reaches_13 : decode cX1_reaches 13 = .ok (.iconst 5, 1) := by decide +kernel
theorem dX1_reaches_14 : decode cX1_reaches 14 = .ok (.if_icmp .ge 37, 3) := by decide +kernel
theorem dX1_reaches_17 : decode cX1_reaches 17 = .ok (.iload_n 2, 1) := by decide +kernel
theorem dX1_reaches_18 : decode cX1_reaches 18 = .ok (.aload_n 0, 1) := by decide +kernel
theorem dX1_reaches_19 : decode cX1_reaches 19 = .ok (.getfield 46, 3) := by decide +kernel
theorem dX1_reaches_22 : decode cX1_reaches 22 = .ok (.iload_n 1, 1) := by decide +kernel
theorem dX1_reaches_23 : decode cX1_reaches 23 = .ok (.iaload, 1) := by decide +kernel
theorem dX1_reaches_24 : decode cX1_reaches 24 = .ok (.if_icmp .lt 27, 3) := by decide +kernel
theorem dX1_reaches_27 : decode cX1_reaches 27 = .ok (.iload_n 2, 1) := by decide +kernel
theorem dX1_reaches_28 : decode cX1_reaches 28 = .ok (.aload_n 0, 1) := by decide +kernel
theorem dX1_reaches_29 : decode cX1_reaches 29 = .ok (.getfield 49, 3) := by decide +kernel
theorem dX1_reaches_32 : decode cX1_reaches 32 = .ok (.iload_n 1, 1) := by decide +kernel
theorem dX1_reaches_33 : decode cX1_reaches 33 = .ok (.iaload, 1) := by decide +kernel
theorem dX1_reaches_34 : decode cX1_reaches 34 = .ok (.iload_n 3, 1) := by decide +kernel
theorem dX1_reaches_35 : decode cX1_reaches 35 = .ok (.ifCond .eq 7, 3) := by decide +kernel
theorem dX1_reaches_38 : decode cX1_reaches 38 = .ok (.iconst 2, 1) := by decide +kernel
theorem dX1_reaches_39 : decode cX1_reaches 39 = .ok (.goto 4, 3) := by decide +kernel
theorem dX1_reaches_42 : decode cX1_reaches 42 = .ok (.iconst 0, 1) := by decide +kernel
theorem dX1_reaches_43 : decode cX1_reaches 43 = .ok (.isub, 1) := by decide +kernel
theorem dX1_reaches_44 : decode cX1_reaches 44 = .ok (.if_icmp .gt 7, 3) := by decide +kernel
theorem dX1_reaches_47 : decode cX1_reaches 47 = .ok (.iconst 1, 1) := by decide +kernel
theorem dX1_reaches_48 : decode cX1_reaches 48 = .ok (.goto 4, 3) := by decide +kernel
theorem dX1_reaches_51 : decode cX1_reaches 51 = .ok (.iconst 0, 1) := by decide +kernel
theorem dX1_reaches_52 : decode cX1_reaches 52 = .ok (.ireturn, 1) := by decide +kernel
theorem dX1_everybody_0 : decode cX1_everybody 0 = .ok (.iconst 1, 1) := by decide +kernel
theorem dX1_everybody_1 : decode cX1_everybody 1 = .ok (.aload_n 0, 1) := by decide +kernel
theorem dX1_everybody_2 : decode cX1_everybody 2 = .ok (.getfield 18, 3) := by decide +kernel
theorem dX1_everybody_5 : decode cX1_everybody 5 = .ok (.ishl, 1) := by decide +kernel
theorem dX1_everybody_6 : decode cX1_everybody 6 = .ok (.iconst 1, 1) := by decide +kernel
theorem dX1_everybody_7 : decode cX1_everybody 7 = .ok (.isub, 1) := by decide +kernel
theorem dX1_everybody_8 : decode cX1_everybody 8 = .ok (.ireturn, 1) := by decide +kernel
theorem dX1_notesOf_0 : decode cX1_notesOf 0 = .ok (.iconst 0, 1) := by decide +kernel
theorem dX1_notesOf_1 : decode cX1_notesOf 1 = .ok (.istore_n 2, 1) := by decide +kernel
theorem dX1_notesOf_2 : decode cX1_notesOf 2 = .ok (.iconst 0, 1) := by decide +kernel
theorem dX1_notesOf_3 : decode cX1_notesOf 3 = .ok (.istore_n 3, 1) := by decide +kernel
theorem dX1_notesOf_4 : decode cX1_notesOf 4 = .ok (.iload_n 3, 1) := by decide +kernel
theorem dX1_notesOf_5 : decode cX1_notesOf 5 = .ok (.iconst 5, 1) := by decide +kernel
theorem dX1_notesOf_6 : decode cX1_notesOf 6 = .ok (.if_icmp .ge 51, 3) := by decide +kernel
theorem dX1_notesOf_9 : decode cX1_notesOf 9 = .ok (.iconst 1, 1) := by decide +kernel
theorem dX1_notesOf_10 : decode cX1_notesOf 10 = .ok (.istore 4, 2) := by decide +kernel
theorem dX1_notesOf_12 : decode cX1_notesOf 12 = .ok (.iload 4, 2) := by decide +kernel
theorem dX1_notesOf_14 : decode cX1_notesOf 14 = .ok (.bipush 9, 2) := by decide +kernel
theorem dX1_notesOf_16 : decode cX1_notesOf 16 = .ok (.if_icmp .gt 35, 3) := by decide +kernel
theorem dX1_notesOf_19 : decode cX1_notesOf 19 = .ok (.iload_n 1, 1) := by decide +kernel
theorem dX1_notesOf_20 : decode cX1_notesOf 20 = .ok (.iload_n 3, 1) := by decide +kernel
theorem dX1_notesOf_21 : decode cX1_notesOf 21 = .ok (.ishr, 1) := by decide +kernel
theorem dX1_notesOf_22 : decode cX1_notesOf 22 = .ok (.iconst 1, 1) := by decide +kernel
theorem dX1_notesOf_23 : decode cX1_notesOf 23 = .ok (.iand, 1) := by decide +kernel
theorem dX1_notesOf_24 : decode cX1_notesOf 24 = .ok (.ifCond .eq 21, 3) := by decide +kernel
theorem dX1_notesOf_27 : decode cX1_notesOf 27 = .ok (.aload_n 0, 1) := by decide +kernel
theorem dX1_notesOf_28 : decode cX1_notesOf 28 = .ok (.iload_n 3, 1) := by decide +kernel
theorem dX1_notesOf_29 : decode cX1_notesOf 29 = .ok (.iload 4, 2) := by decide +kernel
theorem dX1_notesOf_31 : decode cX1_notesOf 31 = .ok (.iconst 0, 1) := by decide +kernel
theorem dX1_notesOf_32 : decode cX1_notesOf 32 = .ok (.invokevirtual 74, 3) := by decide +kernel
theorem dX1_notesOf_35 : decode cX1_notesOf 35 = .ok (.ifCond .eq 10, 3) := by decide +kernel
theorem dX1_notesOf_38 : decode cX1_notesOf 38 = .ok (.iload_n 2, 1) := by decide +kernel
theorem dX1_notesOf_39 : decode cX1_notesOf 39 = .ok (.iconst 1, 1) := by decide +kernel
theorem dX1_notesOf_40 : decode cX1_notesOf 40 = .ok (.iload 4, 2) := by decide +kernel
theorem dX1_notesOf_42 : decode cX1_notesOf 42 = .ok (.ishl, 1) := by decide +kernel
theorem dX1_notesOf_43 : decode cX1_notesOf 43 = .ok (.ior, 1) := by decide +kernel
theorem dX1_notesOf_44 : decode cX1_notesOf 44 = .ok (.istore_n 2, 1) := by decide +kernel
theorem dX1_notesOf_45 : decode cX1_notesOf 45 = .ok (.iinc 4 1, 3) := by decide +kernel
theorem dX1_notesOf_48 : decode cX1_notesOf 48 = .ok (.goto (-36), 3) := by decide +kernel
theorem dX1_notesOf_51 : decode cX1_notesOf 51 = .ok (.iinc 3 1, 3) := by decide +kernel
theorem dX1_notesOf_54 : decode cX1_notesOf 54 = .ok (.goto (-50), 3) := by decide +kernel
theorem dX1_notesOf_57 : decode cX1_notesOf 57 = .ok (.iload_n 2, 1) := by decide +kernel
theorem dX1_notesOf_58 : decode cX1_notesOf 58 = .ok (.ireturn, 1) := by decide +kernel
theorem dX1_notesSung_0 : decode cX1_notesSung 0 = .ok (.iconst 0, 1) := by decide +kernel
theorem dX1_notesSung_1 : decode cX1_notesSung 1 = .ok (.istore_n 1, 1) := by decide +kernel
theorem dX1_notesSung_2 : decode cX1_notesSung 2 = .ok (.iconst 0, 1) := by decide +kernel
theorem dX1_notesSung_3 : decode cX1_notesSung 3 = .ok (.istore_n 2, 1) := by decide +kernel
theorem dX1_notesSung_4 : decode cX1_notesSung 4 = .ok (.iload_n 2, 1) := by decide +kernel
theorem dX1_notesSung_5 : decode cX1_notesSung 5 = .ok (.bipush 8, 2) := by decide +kernel
theorem dX1_notesSung_7 : decode cX1_notesSung 7 = .ok (.if_icmp .ge 28, 3) := by decide +kernel
theorem dX1_notesSung_10 : decode cX1_notesSung 10 = .ok (.aload_n 0, 1) := by decide +kernel
theorem dX1_notesSung_11 : decode cX1_notesSung 11 = .ok (.iload_n 2, 1) := by decide +kernel
theorem dX1_notesSung_12 : decode cX1_notesSung 12 = .ok (.invokevirtual 71, 3) := by decide +kernel
theorem dX1_notesSung_15 : decode cX1_notesSung 15 = .ok (.ifCond .eq 14, 3) := by decide +kernel
theorem dX1_notesSung_18 : decode cX1_notesSung 18 = .ok (.iload_n 1, 1) := by decide +kernel
theorem dX1_notesSung_19 : decode cX1_notesSung 19 = .ok (.iconst 1, 1) := by decide +kernel
theorem dX1_notesSung_20 : decode cX1_notesSung 20 = .ok (.aload_n 0, 1) := by decide +kernel
theorem dX1_notesSung_21 : decode cX1_notesSung 21 = .ok (.getfield 34, 3) := by decide +kernel
theorem dX1_notesSung_24 : decode cX1_notesSung 24 = .ok (.iload_n 2, 1) := by decide +kernel
theorem dX1_notesSung_25 : decode cX1_notesSung 25 = .ok (.iaload, 1) := by decide +kernel
theorem dX1_notesSung_26 : decode cX1_notesSung 26 = .ok (.ishl, 1) := by decide +kernel
theorem dX1_notesSung_27 : decode cX1_notesSung 27 = .ok (.ior, 1) := by decide +kernel
theorem dX1_notesSung_28 : decode cX1_notesSung 28 = .ok (.istore_n 1, 1) := by decide +kernel
theorem dX1_notesSung_29 : decode cX1_notesSung 29 = .ok (.iinc 2 1, 3) := by decide +kernel
theorem dX1_notesSung_32 : decode cX1_notesSung 32 = .ok (.goto (-28), 3) := by decide +kernel
theorem dX1_notesSung_35 : decode cX1_notesSung 35 = .ok (.iload_n 1, 1) := by decide +kernel
theorem dX1_notesSung_36 : decode cX1_notesSung 36 = .ok (.ireturn, 1) := by decide +kernel
theorem dX10_at_0 : decode cX10_at 0 = .ok (.iload_n 1, 1) := by decide +kernel
theorem dX10_at_1 : decode cX10_at 1 = .ok (.ifCond .lt 15, 3) := by decide +kernel
theorem dX10_at_4 : decode cX10_at 4 = .ok (.iload_n 1, 1) := by decide +kernel
theorem dX10_at_5 : decode cX10_at 5 = .ok (.aload_n 0, 1) := by decide +kernel
theorem dX10_at_6 : decode cX10_at 6 = .ok (.arraylength, 1) := by decide +kernel
theorem dX10_at_7 : decode cX10_at 7 = .ok (.if_icmp .ge 9, 3) := by decide +kernel
theorem dX10_at_10 : decode cX10_at 10 = .ok (.aload_n 0, 1) := by decide +kernel
theorem dX10_at_11 : decode cX10_at 11 = .ok (.iload_n 1, 1) := by decide +kernel
theorem dX10_at_12 : decode cX10_at 12 = .ok (.iaload, 1) := by decide +kernel
theorem dX10_at_13 : decode cX10_at 13 = .ok (.goto 4, 3) := by decide +kernel
theorem dX10_at_16 : decode cX10_at 16 = .ok (.iconst 0, 1) := by decide +kernel
theorem dX10_at_17 : decode cX10_at 17 = .ok (.ireturn, 1) := by decide +kernel
theorem dX1_reachedBy_0 : decode cX1_reachedBy 0 = .ok (.aload_n 0, 1) := by decide +kernel
theorem dX1_reachedBy_1 : decode cX1_reachedBy 1 = .ok (.aload_n 0, 1) := by decide +kernel
theorem dX1_reachedBy_2 : decode cX1_reachedBy 2 = .ok (.invokevirtual 78, 3) := by decide +kernel
theorem dX1_reachedBy_5 : decode cX1_reachedBy 5 = .ok (.invokevirtual 82, 3) := by decide +kernel
theorem dX1_reachedBy_8 : decode cX1_reachedBy 8 = .ok (.istore_n 2, 1) := by decide +kernel
theorem dX1_reachedBy_9 : decode cX1_reachedBy 9 = .ok (.iconst 0, 1) := by decide +kernel
theorem dX1_reachedBy_10 : decode cX1_reachedBy 10 = .ok (.istore_n 3, 1) := by decide +kernel
theorem dX1_reachedBy_11 : decode cX1_reachedBy 11 = .ok (.iconst 0, 1) := by decide +kernel
theorem dX1_reachedBy_12 : decode cX1_reachedBy 12 = .ok (.istore 4, 2) := by decide +kernel
theorem dX1_reachedBy_14 : decode cX1_reachedBy 14 = .ok (.iload 4, 2) := by decide +kernel
theorem dX1_reachedBy_16 : decode cX1_reachedBy 16 = .ok (.bipush 8, 2) := by decide +kernel
theorem dX1_reachedBy_18 : decode cX1_reachedBy 18 = .ok (.if_icmp .ge 56, 3) := by decide +kernel
theorem dX1_reachedBy_21 : decode cX1_reachedBy 21 = .ok (.aload_n 0, 1) := by decide +kernel
theorem dX1_reachedBy_22 : decode cX1_reachedBy 22 = .ok (.getfield 34, 3) := by decide +kernel
theorem dX1_reachedBy_25 : decode cX1_reachedBy 25 = .ok (.iload 4, 2) := by decide +kernel
theorem dX1_reachedBy_27 : decode cX1_reachedBy 27 = .ok (.invokestatic 86, 3) := by decide +kernel
theorem dX1_reachedBy_30 : decode cX1_reachedBy 30 = .ok (.iload_n 1, 1) := by decide +kernel
theorem dX1_reachedBy_31 : decode cX1_reachedBy 31 = .ok (.iadd, 1) := by decide +kernel
theorem dX1_reachedBy_32 : decode cX1_reachedBy 32 = .ok (.istore 5, 2) := by decide +kernel
theorem dX1_reachedBy_34 : decode cX1_reachedBy 34 = .ok (.aload_n 0, 1) := by decide +kernel
theorem dX1_reachedBy_35 : decode cX1_reachedBy 35 = .ok (.iload 4, 2) := by decide +kernel
theorem dX1_reachedBy_37 : decode cX1_reachedBy 37 = .ok (.invokevirtual 71, 3) := by decide +kernel
theorem dX1_reachedBy_40 : decode cX1_reachedBy 40 = .ok (.ifCond .eq 28, 3) := by decide +kernel
theorem dX1_reachedBy_43 : decode cX1_reachedBy 43 = .ok (.iload 5, 2) := by decide +kernel
theorem dX1_reachedBy_45 : decode cX1_reachedBy 45 = .ok (.iconst 1, 1) := by decide +kernel
theorem dX1_reachedBy_46 : decode cX1_reachedBy 46 = .ok (.if_icmp .lt 22, 3) := by decide +kernel
theorem dX1_reachedBy_49 : decode cX1_reachedBy 49 = .ok (.iload 5, 2) := by decide +kernel
theorem dX1_reachedBy_51 : decode cX1_reachedBy 51 = .ok (.bipush 9, 2) := by decide +kernel
theorem dX1_reachedBy_53 : decode cX1_reachedBy 53 = .ok (.if_icmp .gt 15, 3) := by decide +kernel
theorem dX1_reachedBy_56 : decode cX1_reachedBy 56 = .ok (.iload_n 2, 1) := by decide +kernel
theorem dX1_reachedBy_57 : decode cX1_reachedBy 57 = .ok (.iload 5, 2) := by decide +kernel
theorem dX1_reachedBy_59 : decode cX1_reachedBy 59 = .ok (.ishr, 1) := by decide +kernel
theorem dX1_reachedBy_60 : decode cX1_reachedBy 60 = .ok (.iconst 1, 1) := by decide +kernel
theorem dX1_reachedBy_61 : decode cX1_reachedBy 61 = .ok (.iand, 1) := by decide +kernel
theorem dX1_reachedBy_62 : decode cX1_reachedBy 62 = .ok (.ifCond .eq 6, 3) := by decide +kernel
theorem dX1_reachedBy_65 : decode cX1_reachedBy 65 = .ok (.iinc 3 1, 3) := by decide +kernel
theorem dX1_reachedBy_68 : decode cX1_reachedBy 68 = .ok (.iinc 4 1, 3) := by decide +kernel
theorem dX1_reachedBy_71 : decode cX1_reachedBy 71 = .ok (.goto (-57), 3) := by decide +kernel
theorem dX1_reachedBy_74 : decode cX1_reachedBy 74 = .ok (.iload_n 3, 1) := by decide +kernel
theorem dX1_reachedBy_75 : decode cX1_reachedBy 75 = .ok (.ireturn, 1) := by decide +kernel
theorem dX1_mutes_0 : decode cX1_mutes 0 = .ok (.aload_n 0, 1) := by decide +kernel
theorem dX1_mutes_1 : decode cX1_mutes 1 = .ok (.aload_n 0, 1) := by decide +kernel
theorem dX1_mutes_2 : decode cX1_mutes 2 = .ok (.invokevirtual 78, 3) := by decide +kernel
theorem dX1_mutes_5 : decode cX1_mutes 5 = .ok (.invokevirtual 82, 3) := by decide +kernel
theorem dX1_mutes_8 : decode cX1_mutes 8 = .ok (.istore_n 1, 1) := by decide +kernel
theorem dX1_mutes_9 : decode cX1_mutes 9 = .ok (.iconst 0, 1) := by decide +kernel
theorem dX1_mutes_10 : decode cX1_mutes 10 = .ok (.istore_n 2, 1) := by decide +kernel
theorem dX1_mutes_11 : decode cX1_mutes 11 = .ok (.iconst 0, 1) := by decide +kernel
theorem dX1_mutes_12 : decode cX1_mutes 12 = .ok (.istore_n 3, 1) := by decide +kernel
theorem dX1_mutes_13 : decode cX1_mutes 13 = .ok (.iload_n 3, 1) := by decide +kernel
theorem dX1_mutes_14 : decode cX1_mutes 14 = .ok (.bipush 8, 2) := by decide +kernel
theorem dX1_mutes_16 : decode cX1_mutes 16 = .ok (.if_icmp .ge 36, 3) := by decide +kernel
theorem dX1_mutes_19 : decode cX1_mutes 19 = .ok (.aload_n 0, 1) := by decide +kernel
theorem dX1_mutes_20 : decode cX1_mutes 20 = .ok (.iload_n 3, 1) := by decide +kernel
theorem dX1_mutes_21 : decode cX1_mutes 21 = .ok (.invokevirtual 71, 3) := by decide +kernel
theorem dX1_mutes_24 : decode cX1_mutes 24 = .ok (.ifCond .eq 22, 3) := by decide +kernel
theorem dX1_mutes_27 : decode cX1_mutes 27 = .ok (.iload_n 1, 1) := by decide +kernel
theorem dX1_mutes_28 : decode cX1_mutes 28 = .ok (.aload_n 0, 1) := by decide +kernel
theorem dX1_mutes_29 : decode cX1_mutes 29 = .ok (.getfield 34, 3) := by decide +kernel
theorem dX1_mutes_32 : decode cX1_mutes 32 = .ok (.iload_n 3, 1) := by decide +kernel
theorem dX1_mutes_33 : decode cX1_mutes 33 = .ok (.iaload, 1) := by decide +kernel
theorem dX1_mutes_34 : decode cX1_mutes 34 = .ok (.ishr, 1) := by decide +kernel
theorem dX1_mutes_35 : decode cX1_mutes 35 = .ok (.iconst 1, 1) := by decide +kernel
theorem dX1_mutes_36 : decode cX1_mutes 36 = .ok (.iand, 1) := by decide +kernel
theorem dX1_mutes_37 : decode cX1_mutes 37 = .ok (.ifCond .ne 9, 3) := by decide +kernel
theorem dX1_mutes_40 : decode cX1_mutes 40 = .ok (.iload_n 2, 1) := by decide +kernel
theorem dX1_mutes_41 : decode cX1_mutes 41 = .ok (.iconst 1, 1) := by decide +kernel
theorem dX1_mutes_42 : decode cX1_mutes 42 = .ok (.iload_n 3, 1) := by decide +kernel
theorem dX1_mutes_43 : decode cX1_mutes 43 = .ok (.ishl, 1) := by decide +kernel
theorem dX1_mutes_44 : decode cX1_mutes 44 = .ok (.ior, 1) := by decide +kernel
theorem dX1_mutes_45 : decode cX1_mutes 45 = .ok (.istore_n 2, 1) := by decide +kernel
theorem dX1_mutes_46 : decode cX1_mutes 46 = .ok (.iinc 3 1, 3) := by decide +kernel
theorem dX1_mutes_49 : decode cX1_mutes 49 = .ok (.goto (-36), 3) := by decide +kernel
theorem dX1_mutes_52 : decode cX1_mutes 52 = .ok (.iload_n 2, 1) := by decide +kernel
theorem dX1_mutes_53 : decode cX1_mutes 53 = .ok (.ireturn, 1) := by decide +kernel
theorem dX1_from_0 : decode cX1_from 0 = .ok (.iconst 1, 1) := by decide +kernel
theorem dX1_from_1 : decode cX1_from 1 = .ok (.aload_n 0, 1) := by decide +kernel
theorem dX1_from_2 : decode cX1_from 2 = .ok (.getfield 9, 3) := by decide +kernel
theorem dX1_from_5 : decode cX1_from 5 = .ok (.ishl, 1) := by decide +kernel
theorem dX1_from_6 : decode cX1_from 6 = .ok (.iconst 1, 1) := by decide +kernel
theorem dX1_from_7 : decode cX1_from 7 = .ok (.isub, 1) := by decide +kernel
theorem dX1_from_8 : decode cX1_from 8 = .ok (.iconst (-1), 1) := by decide +kernel
theorem dX1_from_9 : decode cX1_from 9 = .ok (.iload_n 1, 1) := by decide +kernel
theorem dX1_from_10 : decode cX1_from 10 = .ok (.ishl, 1) := by decide +kernel
theorem dX1_from_11 : decode cX1_from 11 = .ok (.iand, 1) := by decide +kernel
theorem dX1_from_12 : decode cX1_from 12 = .ok (.ireturn, 1) := by decide +kernel
theorem dX1_peopleOf_0 : decode cX1_peopleOf 0 = .ok (.iconst 0, 1) := by decide +kernel
theorem dX1_peopleOf_1 : decode cX1_peopleOf 1 = .ok (.istore_n 2, 1) := by decide +kernel
theorem dX1_peopleOf_2 : decode cX1_peopleOf 2 = .ok (.iconst 0, 1) := by decide +kernel
theorem dX1_peopleOf_3 : decode cX1_peopleOf 3 = .ok (.istore_n 3, 1) := by decide +kernel
theorem dX1_peopleOf_4 : decode cX1_peopleOf 4 = .ok (.iload_n 3, 1) := by decide +kernel
theorem dX1_peopleOf_5 : decode cX1_peopleOf 5 = .ok (.aload_n 0, 1) := by decide +kernel
theorem dX1_peopleOf_6 : decode cX1_peopleOf 6 = .ok (.getfield 9, 3) := by decide +kernel
theorem dX1_peopleOf_9 : decode cX1_peopleOf 9 = .ok (.if_icmp .ge 30, 3) := by decide +kernel
theorem dX1_peopleOf_12 : decode cX1_peopleOf 12 = .ok (.iload_n 3, 1) := by decide +kernel
theorem dX1_peopleOf_13 : decode cX1_peopleOf 13 = .ok (.bipush 6, 2) := by decide +kernel
theorem dX1_peopleOf_15 : decode cX1_peopleOf 15 = .ok (.if_icmp .ge 24, 3) := by decide +kernel
theorem dX1_peopleOf_18 : decode cX1_peopleOf 18 = .ok (.iload_n 2, 1) := by decide +kernel
theorem dX1_peopleOf_19 : decode cX1_peopleOf 19 = .ok (.iload_n 1, 1) := by decide +kernel
theorem dX1_peopleOf_20 : decode cX1_peopleOf 20 = .ok (.iload_n 3, 1) := by decide +kernel
theorem dX1_peopleOf_21 : decode cX1_peopleOf 21 = .ok (.ishr, 1) := by decide +kernel
theorem dX1_peopleOf_22 : decode cX1_peopleOf 22 = .ok (.iconst 1, 1) := by decide +kernel
theorem dX1_peopleOf_23 : decode cX1_peopleOf 23 = .ok (.iand, 1) := by decide +kernel
theorem dX1_peopleOf_24 : decode cX1_peopleOf 24 = .ok (.aload_n 0, 1) := by decide +kernel
theorem dX1_peopleOf_25 : decode cX1_peopleOf 25 = .ok (.getfield 31, 3) := by decide +kernel
theorem dX1_peopleOf_28 : decode cX1_peopleOf 28 = .ok (.iload_n 3, 1) := by decide +kernel
theorem dX1_peopleOf_29 : decode cX1_peopleOf 29 = .ok (.iaload, 1) := by decide +kernel
theorem dX1_peopleOf_30 : decode cX1_peopleOf 30 = .ok (.imul, 1) := by decide +kernel
theorem dX1_peopleOf_31 : decode cX1_peopleOf 31 = .ok (.iadd, 1) := by decide +kernel
theorem dX1_peopleOf_32 : decode cX1_peopleOf 32 = .ok (.istore_n 2, 1) := by decide +kernel
theorem dX1_peopleOf_33 : decode cX1_peopleOf 33 = .ok (.iinc 3 1, 3) := by decide +kernel
theorem dX1_peopleOf_36 : decode cX1_peopleOf 36 = .ok (.goto (-32), 3) := by decide +kernel
theorem dX1_peopleOf_39 : decode cX1_peopleOf 39 = .ok (.iload_n 2, 1) := by decide +kernel
theorem dX1_peopleOf_40 : decode cX1_peopleOf 40 = .ok (.ireturn, 1) := by decide +kernel
theorem dX1_rentsOf_0 : decode cX1_rentsOf 0 = .ok (.iconst 0, 1) := by decide +kernel
theorem dX1_rentsOf_1 : decode cX1_rentsOf 1 = .ok (.istore_n 2, 1) := by decide +kernel
theorem dX1_rentsOf_2 : decode cX1_rentsOf 2 = .ok (.iconst 0, 1) := by decide +kernel
theorem dX1_rentsOf_3 : decode cX1_rentsOf 3 = .ok (.istore_n 3, 1) := by decide +kernel
theorem dX1_rentsOf_4 : decode cX1_rentsOf 4 = .ok (.iload_n 3, 1) := by decide +kernel
theorem dX1_rentsOf_5 : decode cX1_rentsOf 5 = .ok (.aload_n 0, 1) := by decide +kernel
theorem dX1_rentsOf_6 : decode cX1_rentsOf 6 = .ok (.getfield 9, 3) := by decide +kernel
theorem dX1_rentsOf_9 : decode cX1_rentsOf 9 = .ok (.if_icmp .ge 30, 3) := by decide +kernel
theorem dX1_rentsOf_12 : decode cX1_rentsOf 12 = .ok (.iload_n 3, 1) := by decide +kernel
theorem dX1_rentsOf_13 : decode cX1_rentsOf 13 = .ok (.bipush 6, 2) := by decide +kernel
theorem dX1_rentsOf_15 : decode cX1_rentsOf 15 = .ok (.if_icmp .ge 24, 3) := by decide +kernel
theorem dX1_rentsOf_18 : decode cX1_rentsOf 18 = .ok (.iload_n 2, 1) := by decide +kernel
theorem dX1_rentsOf_19 : decode cX1_rentsOf 19 = .ok (.iload_n 1, 1) := by decide +kernel
theorem dX1_rentsOf_20 : decode cX1_rentsOf 20 = .ok (.iload_n 3, 1) := by decide +kernel
theorem dX1_rentsOf_21 : decode cX1_rentsOf 21 = .ok (.ishr, 1) := by decide +kernel
theorem dX1_rentsOf_22 : decode cX1_rentsOf 22 = .ok (.iconst 1, 1) := by decide +kernel
theorem dX1_rentsOf_23 : decode cX1_rentsOf 23 = .ok (.iand, 1) := by decide +kernel
theorem dX1_rentsOf_24 : decode cX1_rentsOf 24 = .ok (.aload_n 0, 1) := by decide +kernel
theorem dX1_rentsOf_25 : decode cX1_rentsOf 25 = .ok (.getfield 27, 3) := by decide +kernel
theorem dX1_rentsOf_28 : decode cX1_rentsOf 28 = .ok (.iload_n 3, 1) := by decide +kernel
theorem dX1_rentsOf_29 : decode cX1_rentsOf 29 = .ok (.iaload, 1) := by decide +kernel
theorem dX1_rentsOf_30 : decode cX1_rentsOf 30 = .ok (.imul, 1) := by decide +kernel
theorem dX1_rentsOf_31 : decode cX1_rentsOf 31 = .ok (.iadd, 1) := by decide +kernel
theorem dX1_rentsOf_32 : decode cX1_rentsOf 32 = .ok (.istore_n 2, 1) := by decide +kernel
theorem dX1_rentsOf_33 : decode cX1_rentsOf 33 = .ok (.iinc 3 1, 3) := by decide +kernel
theorem dX1_rentsOf_36 : decode cX1_rentsOf 36 = .ok (.goto (-32), 3) := by decide +kernel
theorem dX1_rentsOf_39 : decode cX1_rentsOf 39 = .ok (.iload_n 2, 1) := by decide +kernel
theorem dX1_rentsOf_40 : decode cX1_rentsOf 40 = .ok (.ireturn, 1) := by decide +kernel
theorem dX1_roofOf_0 : decode cX1_roofOf 0 = .ok (.aload_n 0, 1) := by decide +kernel
theorem dX1_roofOf_1 : decode cX1_roofOf 1 = .ok (.iload_n 1, 1) := by decide +kernel
theorem dX1_roofOf_2 : decode cX1_roofOf 2 = .ok (.invokevirtual 71, 3) := by decide +kernel
theorem dX1_roofOf_5 : decode cX1_roofOf 5 = .ok (.ifCond .eq 22, 3) := by decide +kernel
theorem dX1_roofOf_8 : decode cX1_roofOf 8 = .ok (.aload_n 0, 1) := by decide +kernel
theorem dX1_roofOf_9 : decode cX1_roofOf 9 = .ok (.aload_n 0, 1) := by decide +kernel
theorem dX1_roofOf_10 : decode cX1_roofOf 10 = .ok (.aload_n 0, 1) := by decide +kernel
theorem dX1_roofOf_11 : decode cX1_roofOf 11 = .ok (.getfield 40, 3) := by decide +kernel
theorem dX1_roofOf_14 : decode cX1_roofOf 14 = .ok (.iload_n 1, 1) := by decide +kernel
theorem dX1_roofOf_15 : decode cX1_roofOf 15 = .ok (.invokestatic 86, 3) := by decide +kernel
theorem dX1_roofOf_18 : decode cX1_roofOf 18 = .ok (.invokevirtual 90, 3) := by decide +kernel
theorem dX1_roofOf_21 : decode cX1_roofOf 21 = .ok (.invokevirtual 93, 3) := by decide +kernel
theorem dX1_roofOf_24 : decode cX1_roofOf 24 = .ok (.goto 4, 3) := by decide +kernel
theorem dX1_roofOf_27 : decode cX1_roofOf 27 = .ok (.iconst 0, 1) := by decide +kernel
theorem dX1_roofOf_28 : decode cX1_roofOf 28 = .ok (.ireturn, 1) := by decide +kernel
theorem dX1_quietest_0 : decode cX1_quietest 0 = .ok (.iconst (-1), 1) := by decide +kernel
theorem dX1_quietest_1 : decode cX1_quietest 1 = .ok (.istore_n 1, 1) := by decide +kernel
theorem dX1_quietest_2 : decode cX1_quietest 2 = .ok (.iconst 0, 1) := by decide +kernel
theorem dX1_quietest_3 : decode cX1_quietest 3 = .ok (.istore_n 2, 1) := by decide +kernel
theorem dX1_quietest_4 : decode cX1_quietest 4 = .ok (.iload_n 2, 1) := by decide +kernel
theorem dX1_quietest_5 : decode cX1_quietest 5 = .ok (.bipush 8, 2) := by decide +kernel
theorem dX1_quietest_7 : decode cX1_quietest 7 = .ok (.if_icmp .ge 37, 3) := by decide +kernel
theorem dX1_quietest_10 : decode cX1_quietest 10 = .ok (.aload_n 0, 1) := by decide +kernel
theorem dX1_quietest_11 : decode cX1_quietest 11 = .ok (.iload_n 2, 1) := by decide +kernel
theorem dX1_quietest_12 : decode cX1_quietest 12 = .ok (.invokevirtual 71, 3) := by decide +kernel
theorem dX1_quietest_15 : decode cX1_quietest 15 = .ok (.ifCond .eq 23, 3) := by decide +kernel
theorem dX1_quietest_18 : decode cX1_quietest 18 = .ok (.iload_n 1, 1) := by decide +kernel
theorem dX1_quietest_19 : decode cX1_quietest 19 = .ok (.iconst (-1), 1) := by decide +kernel
theorem dX1_quietest_20 : decode cX1_quietest 20 = .ok (.if_icmp .eq 16, 3) := by decide +kernel
theorem dX1_quietest_23 : decode cX1_quietest 23 = .ok (.aload_n 0, 1) := by decide +kernel
theorem dX1_quietest_24 : decode cX1_quietest 24 = .ok (.iload_n 2, 1) := by decide +kernel
theorem dX1_quietest_25 : decode cX1_quietest 25 = .ok (.invokevirtual 96, 3) := by decide +kernel
theorem dX1_quietest_28 : decode cX1_quietest 28 = .ok (.aload_n 0, 1) := by decide +kernel
theorem dX1_quietest_29 : decode cX1_quietest 29 = .ok (.iload_n 1, 1) := by decide +kernel
theorem dX1_quietest_30 : decode cX1_quietest 30 = .ok (.invokevirtual 96, 3) := by decide +kernel
theorem dX1_quietest_33 : decode cX1_quietest 33 = .ok (.if_icmp .ge 5, 3) := by decide +kernel
theorem dX1_quietest_36 : decode cX1_quietest 36 = .ok (.iload_n 2, 1) := by decide +kernel
theorem dX1_quietest_37 : decode cX1_quietest 37 = .ok (.istore_n 1, 1) := by decide +kernel
theorem dX1_quietest_38 : decode cX1_quietest 38 = .ok (.iinc 2 1, 3) := by decide +kernel
theorem dX1_quietest_41 : decode cX1_quietest 41 = .ok (.goto (-37), 3) := by decide +kernel
theorem dX1_quietest_44 : decode cX1_quietest 44 = .ok (.iload_n 1, 1) := by decide +kernel
theorem dX1_quietest_45 : decode cX1_quietest 45 = .ok (.ireturn, 1) := by decide +kernel
theorem dX1_notesOn_0 : decode cX1_notesOn 0 = .ok (.iconst 0, 1) := by decide +kernel
theorem dX1_notesOn_1 : decode cX1_notesOn 1 = .ok (.istore_n 2, 1) := by decide +kernel
theorem dX1_notesOn_2 : decode cX1_notesOn 2 = .ok (.iconst 0, 1) := by decide +kernel
theorem dX1_notesOn_3 : decode cX1_notesOn 3 = .ok (.istore_n 3, 1) := by decide +kernel
theorem dX1_notesOn_4 : decode cX1_notesOn 4 = .ok (.iload_n 3, 1) := by decide +kernel
theorem dX1_notesOn_5 : decode cX1_notesOn 5 = .ok (.bipush 8, 2) := by decide +kernel
theorem dX1_notesOn_7 : decode cX1_notesOn 7 = .ok (.if_icmp .ge 30, 3) := by decide +kernel
theorem dX1_notesOn_10 : decode cX1_notesOn 10 = .ok (.aload_n 0, 1) := by decide +kernel
theorem dX1_notesOn_11 : decode cX1_notesOn 11 = .ok (.iload_n 3, 1) := by decide +kernel
theorem dX1_notesOn_12 : decode cX1_notesOn 12 = .ok (.invokevirtual 71, 3) := by decide +kernel
theorem dX1_notesOn_15 : decode cX1_notesOn 15 = .ok (.ifCond .eq 16, 3) := by decide +kernel
theorem dX1_notesOn_18 : decode cX1_notesOn 18 = .ok (.aload_n 0, 1) := by decide +kernel
theorem dX1_notesOn_19 : decode cX1_notesOn 19 = .ok (.getfield 40, 3) := by decide +kernel
theorem dX1_notesOn_22 : decode cX1_notesOn 22 = .ok (.iload_n 3, 1) := by decide +kernel
theorem dX1_notesOn_23 : decode cX1_notesOn 23 = .ok (.iaload, 1) := by decide +kernel
theorem dX1_notesOn_24 : decode cX1_notesOn 24 = .ok (.iload_n 1, 1) := by decide +kernel
theorem dX1_notesOn_25 : decode cX1_notesOn 25 = .ok (.if_icmp .ne 6, 3) := by decide +kernel
theorem dX1_notesOn_28 : decode cX1_notesOn 28 = .ok (.iinc 2 1, 3) := by decide +kernel
theorem dX1_notesOn_31 : decode cX1_notesOn 31 = .ok (.iinc 3 1, 3) := by decide +kernel
theorem dX1_notesOn_34 : decode cX1_notesOn 34 = .ok (.goto (-30), 3) := by decide +kernel
theorem dX1_notesOn_37 : decode cX1_notesOn 37 = .ok (.iload_n 2, 1) := by decide +kernel
theorem dX1_notesOn_38 : decode cX1_notesOn 38 = .ok (.ireturn, 1) := by decide +kernel
theorem dX1_busiest_0 : decode cX1_busiest 0 = .ok (.iconst (-1), 1) := by decide +kernel
theorem dX1_busiest_1 : decode cX1_busiest 1 = .ok (.istore_n 1, 1) := by decide +kernel
theorem dX1_busiest_2 : decode cX1_busiest 2 = .ok (.iconst 0, 1) := by decide +kernel
theorem dX1_busiest_3 : decode cX1_busiest 3 = .ok (.istore_n 2, 1) := by decide +kernel
theorem dX1_busiest_4 : decode cX1_busiest 4 = .ok (.iload_n 2, 1) := by decide +kernel
theorem dX1_busiest_5 : decode cX1_busiest 5 = .ok (.aload_n 0, 1) := by decide +kernel
theorem dX1_busiest_6 : decode cX1_busiest 6 = .ok (.getfield 9, 3) := by decide +kernel
theorem dX1_busiest_9 : decode cX1_busiest 9 = .ok (.if_icmp .ge 35, 3) := by decide +kernel
theorem dX1_busiest_12 : decode cX1_busiest 12 = .ok (.iload_n 2, 1) := by decide +kernel
theorem dX1_busiest_13 : decode cX1_busiest 13 = .ok (.bipush 6, 2) := by decide +kernel
theorem dX1_busiest_15 : decode cX1_busiest 15 = .ok (.if_icmp .ge 29, 3) := by decide +kernel
theorem dX1_busiest_18 : decode cX1_busiest 18 = .ok (.iload_n 1, 1) := by decide +kernel
theorem dX1_busiest_19 : decode cX1_busiest 19 = .ok (.iconst (-1), 1) := by decide +kernel
theorem dX1_busiest_20 : decode cX1_busiest 20 = .ok (.if_icmp .eq 16, 3) := by decide +kernel
theorem dX1_busiest_23 : decode cX1_busiest 23 = .ok (.aload_n 0, 1) := by decide +kernel
theorem dX1_busiest_24 : decode cX1_busiest 24 = .ok (.iload_n 2, 1) := by decide +kernel
theorem dX1_busiest_25 : decode cX1_busiest 25 = .ok (.invokevirtual 99, 3) := by decide +kernel
theorem dX1_busiest_28 : decode cX1_busiest 28 = .ok (.aload_n 0, 1) := by decide +kernel
theorem dX1_busiest_29 : decode cX1_busiest 29 = .ok (.iload_n 1, 1) := by decide +kernel
theorem dX1_busiest_30 : decode cX1_busiest 30 = .ok (.invokevirtual 99, 3) := by decide +kernel
theorem dX1_busiest_33 : decode cX1_busiest 33 = .ok (.if_icmp .le 5, 3) := by decide +kernel
theorem dX1_busiest_36 : decode cX1_busiest 36 = .ok (.iload_n 2, 1) := by decide +kernel
theorem dX1_busiest_37 : decode cX1_busiest 37 = .ok (.istore_n 1, 1) := by decide +kernel
theorem dX1_busiest_38 : decode cX1_busiest 38 = .ok (.iinc 2 1, 3) := by decide +kernel
theorem dX1_busiest_41 : decode cX1_busiest 41 = .ok (.goto (-37), 3) := by decide +kernel
theorem dX1_busiest_44 : decode cX1_busiest 44 = .ok (.iload_n 1, 1) := by decide +kernel
theorem dX1_busiest_45 : decode cX1_busiest 45 = .ok (.ireturn, 1) := by decide +kernel
theorem dX1_alike_0 : decode cX1_alike 0 = .ok (.iconst 0, 1) := by decide +kernel
theorem dX1_alike_1 : decode cX1_alike 1 = .ok (.istore 4, 2) := by decide +kernel
theorem dX1_alike_3 : decode cX1_alike 3 = .ok (.iload 4, 2) := by decide +kernel
theorem dX1_alike_5 : decode cX1_alike 5 = .ok (.iload_n 3, 1) := by decide +kernel
theorem dX1_alike_6 : decode cX1_alike 6 = .ok (.if_icmp .ge 61, 3) := by decide +kernel
theorem dX1_alike_9 : decode cX1_alike 9 = .ok (.aload_n 0, 1) := by decide +kernel
theorem dX1_alike_10 : decode cX1_alike 10 = .ok (.getfield 34, 3) := by decide +kernel
theorem dX1_alike_13 : decode cX1_alike 13 = .ok (.iload_n 1, 1) := by decide +kernel
theorem dX1_alike_14 : decode cX1_alike 14 = .ok (.iload 4, 2) := by decide +kernel
theorem dX1_alike_16 : decode cX1_alike 16 = .ok (.iadd, 1) := by decide +kernel
theorem dX1_alike_17 : decode cX1_alike 17 = .ok (.invokestatic 86, 3) := by decide +kernel
theorem dX1_alike_20 : decode cX1_alike 20 = .ok (.aload_n 0, 1) := by decide +kernel
theorem dX1_alike_21 : decode cX1_alike 21 = .ok (.getfield 34, 3) := by decide +kernel
theorem dX1_alike_24 : decode cX1_alike 24 = .ok (.iload_n 2, 1) := by decide +kernel
theorem dX1_alike_25 : decode cX1_alike 25 = .ok (.iload 4, 2) := by decide +kernel
theorem dX1_alike_27 : decode cX1_alike 27 = .ok (.iadd, 1) := by decide +kernel
theorem dX1_alike_28 : decode cX1_alike 28 = .ok (.invokestatic 86, 3) := by decide +kernel
theorem dX1_alike_31 : decode cX1_alike 31 = .ok (.if_icmp .ne 28, 3) := by decide +kernel
theorem dX1_alike_34 : decode cX1_alike 34 = .ok (.aload_n 0, 1) := by decide +kernel
theorem dX1_alike_35 : decode cX1_alike 35 = .ok (.getfield 37, 3) := by decide +kernel
theorem dX1_alike_38 : decode cX1_alike 38 = .ok (.iload_n 1, 1) := by decide +kernel
theorem dX1_alike_39 : decode cX1_alike 39 = .ok (.iload 4, 2) := by decide +kernel
theorem dX1_alike_41 : decode cX1_alike 41 = .ok (.iadd, 1) := by decide +kernel
theorem dX1_alike_42 : decode cX1_alike 42 = .ok (.invokestatic 86, 3) := by decide +kernel
theorem dX1_alike_45 : decode cX1_alike 45 = .ok (.aload_n 0, 1) := by decide +kernel
theorem dX1_alike_46 : decode cX1_alike 46 = .ok (.getfield 37, 3) := by decide +kernel
theorem dX1_alike_49 : decode cX1_alike 49 = .ok (.iload_n 2, 1) := by decide +kernel
theorem dX1_alike_50 : decode cX1_alike 50 = .ok (.iload 4, 2) := by decide +kernel
theorem dX1_alike_52 : decode cX1_alike 52 = .ok (.iadd, 1) := by decide +kernel
theorem dX1_alike_53 : decode cX1_alike 53 = .ok (.invokestatic 86, 3) := by decide +kernel
theorem dX1_alike_56 : decode cX1_alike 56 = .ok (.if_icmp .eq 5, 3) := by decide +kernel
theorem dX1_alike_59 : decode cX1_alike 59 = .ok (.iconst 0, 1) := by decide +kernel
theorem dX1_alike_60 : decode cX1_alike 60 = .ok (.ireturn, 1) := by decide +kernel
theorem dX1_alike_61 : decode cX1_alike 61 = .ok (.iinc 4 1, 3) := by decide +kernel
theorem dX1_alike_64 : decode cX1_alike 64 = .ok (.goto (-61), 3) := by decide +kernel
theorem dX1_alike_67 : decode cX1_alike 67 = .ok (.iconst 1, 1) := by decide +kernel
theorem dX1_alike_68 : decode cX1_alike 68 = .ok (.ireturn, 1) := by decide +kernel
theorem dX10_bitAt_0 : decode cX10_bitAt 0 = .ok (.iconst 0, 1) := by decide +kernel
theorem dX10_bitAt_1 : decode cX10_bitAt 1 = .ok (.istore_n 2, 1) := by decide +kernel
theorem dX10_bitAt_2 : decode cX10_bitAt 2 = .ok (.iconst 0, 1) := by decide +kernel
theorem dX10_bitAt_3 : decode cX10_bitAt 3 = .ok (.istore_n 3, 1) := by decide +kernel
theorem dX10_bitAt_4 : decode cX10_bitAt 4 = .ok (.iload_n 3, 1) := by decide +kernel
theorem dX10_bitAt_5 : decode cX10_bitAt 5 = .ok (.bipush 31, 2) := by decide +kernel
theorem dX10_bitAt_7 : decode cX10_bitAt 7 = .ok (.if_icmp .ge 27, 3) := by decide +kernel
theorem dX10_bitAt_10 : decode cX10_bitAt 10 = .ok (.iload_n 0, 1) := by decide +kernel
theorem dX10_bitAt_11 : decode cX10_bitAt 11 = .ok (.iload_n 3, 1) := by decide +kernel
theorem dX10_bitAt_12 : decode cX10_bitAt 12 = .ok (.ishr, 1) := by decide +kernel
theorem dX10_bitAt_13 : decode cX10_bitAt 13 = .ok (.iconst 1, 1) := by decide +kernel
theorem dX10_bitAt_14 : decode cX10_bitAt 14 = .ok (.iand, 1) := by decide +kernel
theorem dX10_bitAt_15 : decode cX10_bitAt 15 = .ok (.ifCond .eq 13, 3) := by decide +kernel
theorem dX10_bitAt_18 : decode cX10_bitAt 18 = .ok (.iload_n 2, 1) := by decide +kernel
theorem dX10_bitAt_19 : decode cX10_bitAt 19 = .ok (.iload_n 1, 1) := by decide +kernel
theorem dX10_bitAt_20 : decode cX10_bitAt 20 = .ok (.if_icmp .ne 5, 3) := by decide +kernel
theorem dX10_bitAt_23 : decode cX10_bitAt 23 = .ok (.iload_n 3, 1) := by decide +kernel
theorem dX10_bitAt_24 : decode cX10_bitAt 24 = .ok (.ireturn, 1) := by decide +kernel
theorem dX10_bitAt_25 : decode cX10_bitAt 25 = .ok (.iinc 2 1, 3) := by decide +kernel
theorem dX10_bitAt_28 : decode cX10_bitAt 28 = .ok (.iinc 3 1, 3) := by decide +kernel
theorem dX10_bitAt_31 : decode cX10_bitAt 31 = .ok (.goto (-27), 3) := by decide +kernel
theorem dX10_bitAt_34 : decode cX10_bitAt 34 = .ok (.iconst (-1), 1) := by decide +kernel
theorem dX10_bitAt_35 : decode cX10_bitAt 35 = .ok (.ireturn, 1) := by decide +kernel
theorem dJ6_bitCount_0f7a4_0 : decode cJ6_bitCount_0f7a4 0 = .ok (.iload_n 0, 1) := by decide +kernel
theorem dJ6_bitCount_0f7a4_1 : decode cJ6_bitCount_0f7a4 1 = .ok (.iload_n 0, 1) := by decide +kernel
theorem dJ6_bitCount_0f7a4_2 : decode cJ6_bitCount_0f7a4 2 = .ok (.iconst 1, 1) := by decide +kernel
theorem dJ6_bitCount_0f7a4_3 : decode cJ6_bitCount_0f7a4 3 = .ok (.iushr, 1) := by decide +kernel
theorem dJ6_bitCount_0f7a4_4 : decode cJ6_bitCount_0f7a4 4 = .ok (.ldc_w 265, 3) := by decide +kernel
theorem dJ6_bitCount_0f7a4_7 : decode cJ6_bitCount_0f7a4 7 = .ok (.iand, 1) := by decide +kernel
theorem dJ6_bitCount_0f7a4_8 : decode cJ6_bitCount_0f7a4 8 = .ok (.isub, 1) := by decide +kernel
theorem dJ6_bitCount_0f7a4_9 : decode cJ6_bitCount_0f7a4 9 = .ok (.istore_n 0, 1) := by decide +kernel
theorem dJ6_bitCount_0f7a4_10 : decode cJ6_bitCount_0f7a4 10 = .ok (.iload_n 0, 1) := by decide +kernel
theorem dJ6_bitCount_0f7a4_11 : decode cJ6_bitCount_0f7a4 11 = .ok (.ldc_w 266, 3) := by decide +kernel
theorem dJ6_bitCount_0f7a4_14 : decode cJ6_bitCount_0f7a4 14 = .ok (.iand, 1) := by decide +kernel
theorem dJ6_bitCount_0f7a4_15 : decode cJ6_bitCount_0f7a4 15 = .ok (.iload_n 0, 1) := by decide +kernel
theorem dJ6_bitCount_0f7a4_16 : decode cJ6_bitCount_0f7a4 16 = .ok (.iconst 2, 1) := by decide +kernel
theorem dJ6_bitCount_0f7a4_17 : decode cJ6_bitCount_0f7a4 17 = .ok (.iushr, 1) := by decide +kernel
theorem dJ6_bitCount_0f7a4_18 : decode cJ6_bitCount_0f7a4 18 = .ok (.ldc_w 266, 3) := by decide +kernel
theorem dJ6_bitCount_0f7a4_21 : decode cJ6_bitCount_0f7a4 21 = .ok (.iand, 1) := by decide +kernel
theorem dJ6_bitCount_0f7a4_22 : decode cJ6_bitCount_0f7a4 22 = .ok (.iadd, 1) := by decide +kernel
theorem dJ6_bitCount_0f7a4_23 : decode cJ6_bitCount_0f7a4 23 = .ok (.istore_n 0, 1) := by decide +kernel
theorem dJ6_bitCount_0f7a4_24 : decode cJ6_bitCount_0f7a4 24 = .ok (.iload_n 0, 1) := by decide +kernel
theorem dJ6_bitCount_0f7a4_25 : decode cJ6_bitCount_0f7a4 25 = .ok (.iload_n 0, 1) := by decide +kernel
theorem dJ6_bitCount_0f7a4_26 : decode cJ6_bitCount_0f7a4 26 = .ok (.iconst 4, 1) := by decide +kernel
theorem dJ6_bitCount_0f7a4_27 : decode cJ6_bitCount_0f7a4 27 = .ok (.iushr, 1) := by decide +kernel
theorem dJ6_bitCount_0f7a4_28 : decode cJ6_bitCount_0f7a4 28 = .ok (.iadd, 1) := by decide +kernel
theorem dJ6_bitCount_0f7a4_29 : decode cJ6_bitCount_0f7a4 29 = .ok (.ldc_w 267, 3) := by decide +kernel
theorem dJ6_bitCount_0f7a4_32 : decode cJ6_bitCount_0f7a4 32 = .ok (.iand, 1) := by decide +kernel
theorem dJ6_bitCount_0f7a4_33 : decode cJ6_bitCount_0f7a4 33 = .ok (.istore_n 0, 1) := by decide +kernel
theorem dJ6_bitCount_0f7a4_34 : decode cJ6_bitCount_0f7a4 34 = .ok (.iload_n 0, 1) := by decide +kernel
theorem dJ6_bitCount_0f7a4_35 : decode cJ6_bitCount_0f7a4 35 = .ok (.iload_n 0, 1) := by decide +kernel
theorem dJ6_bitCount_0f7a4_36 : decode cJ6_bitCount_0f7a4 36 = .ok (.bipush 8, 2) := by decide +kernel
theorem dJ6_bitCount_0f7a4_38 : decode cJ6_bitCount_0f7a4 38 = .ok (.iushr, 1) := by decide +kernel
theorem dJ6_bitCount_0f7a4_39 : decode cJ6_bitCount_0f7a4 39 = .ok (.iadd, 1) := by decide +kernel
theorem dJ6_bitCount_0f7a4_40 : decode cJ6_bitCount_0f7a4 40 = .ok (.istore_n 0, 1) := by decide +kernel
theorem dJ6_bitCount_0f7a4_41 : decode cJ6_bitCount_0f7a4 41 = .ok (.iload_n 0, 1) := by decide +kernel
theorem dJ6_bitCount_0f7a4_42 : decode cJ6_bitCount_0f7a4 42 = .ok (.iload_n 0, 1) := by decide +kernel
theorem dJ6_bitCount_0f7a4_43 : decode cJ6_bitCount_0f7a4 43 = .ok (.bipush 16, 2) := by decide +kernel
theorem dJ6_bitCount_0f7a4_45 : decode cJ6_bitCount_0f7a4 45 = .ok (.iushr, 1) := by decide +kernel
theorem dJ6_bitCount_0f7a4_46 : decode cJ6_bitCount_0f7a4 46 = .ok (.iadd, 1) := by decide +kernel
theorem dJ6_bitCount_0f7a4_47 : decode cJ6_bitCount_0f7a4 47 = .ok (.istore_n 0, 1) := by decide +kernel
theorem dJ6_bitCount_0f7a4_48 : decode cJ6_bitCount_0f7a4 48 = .ok (.iload_n 0, 1) := by decide +kernel
theorem dJ6_bitCount_0f7a4_49 : decode cJ6_bitCount_0f7a4 49 = .ok (.bipush 63, 2) := by decide +kernel
theorem dJ6_bitCount_0f7a4_51 : decode cJ6_bitCount_0f7a4 51 = .ok (.iand, 1) := by decide +kernel
theorem dJ6_bitCount_0f7a4_52 : decode cJ6_bitCount_0f7a4 52 = .ok (.ireturn, 1) := by decide +kernel
theorem dJ7_fill_53178_0 : decode cJ7_fill_53178 0 = .ok (.iconst 0, 1) := by decide +kernel
theorem dJ7_fill_53178_1 : decode cJ7_fill_53178 1 = .ok (.istore_n 2, 1) := by decide +kernel
theorem dJ7_fill_53178_2 : decode cJ7_fill_53178 2 = .ok (.aload_n 0, 1) := by decide +kernel
theorem dJ7_fill_53178_3 : decode cJ7_fill_53178 3 = .ok (.arraylength, 1) := by decide +kernel
theorem dJ7_fill_53178_4 : decode cJ7_fill_53178 4 = .ok (.istore_n 3, 1) := by decide +kernel
theorem dJ7_fill_53178_5 : decode cJ7_fill_53178 5 = .ok (.iload_n 2, 1) := by decide +kernel
theorem dJ7_fill_53178_6 : decode cJ7_fill_53178 6 = .ok (.iload_n 3, 1) := by decide +kernel
theorem dJ7_fill_53178_7 : decode cJ7_fill_53178 7 = .ok (.if_icmp .ge 13, 3) := by decide +kernel
theorem dJ7_fill_53178_10 : decode cJ7_fill_53178 10 = .ok (.aload_n 0, 1) := by decide +kernel
theorem dJ7_fill_53178_11 : decode cJ7_fill_53178 11 = .ok (.iload_n 2, 1) := by decide +kernel
theorem dJ7_fill_53178_12 : decode cJ7_fill_53178 12 = .ok (.iload_n 1, 1) := by decide +kernel
theorem dJ7_fill_53178_13 : decode cJ7_fill_53178 13 = .ok (.iastore, 1) := by decide +kernel
theorem dJ7_fill_53178_14 : decode cJ7_fill_53178 14 = .ok (.iinc 2 1, 3) := by decide +kernel
theorem dJ7_fill_53178_17 : decode cJ7_fill_53178 17 = .ok (.goto (-12), 3) := by decide +kernel
theorem dJ7_fill_53178_20 : decode cJ7_fill_53178 20 = .ok (.return_, 1) := by decide +kernel
