theorem dX11_longOf_0 : decode cX11_longOf 0 = .ok (.aload_n 0, 1) := by decide +kernel
theorem dX11_longOf_1 : decode cX11_longOf 1 = .ok (.getfield 7, 3) := by decide +kernel
theorem dX11_longOf_4 : decode cX11_longOf 4 = .ok (.aload_n 0, 1) := by decide +kernel
theorem dX11_longOf_5 : decode cX11_longOf 5 = .ok (.getfield 182, 3) := by decide +kernel
theorem dX11_longOf_8 : decode cX11_longOf 8 = .ok (.bipush 17, 2) := by decide +kernel
theorem dX11_longOf_10 : decode cX11_longOf 10 = .ok (.iadd, 1) := by decide +kernel
theorem dX11_longOf_11 : decode cX11_longOf 11 = .ok (.iconst 1, 1) := by decide +kernel
theorem dX11_longOf_12 : decode cX11_longOf 12 = .ok (.iadd, 1) := by decide +kernel
theorem dX11_longOf_13 : decode cX11_longOf 13 = .ok (.iconst 4, 1) := by decide +kernel
theorem dX11_longOf_14 : decode cX11_longOf 14 = .ok (.iload_n 1, 1) := by decide +kernel
theorem dX11_longOf_15 : decode cX11_longOf 15 = .ok (.imul, 1) := by decide +kernel
theorem dX11_longOf_16 : decode cX11_longOf 16 = .ok (.iadd, 1) := by decide +kernel
theorem dX11_longOf_17 : decode cX11_longOf 17 = .ok (.iaload, 1) := by decide +kernel
theorem dX11_longOf_18 : decode cX11_longOf 18 = .ok (.ireturn, 1) := by decide +kernel
theorem dX11_floorOf_0 : decode cX11_floorOf 0 = .ok (.aload_n 0, 1) := by decide +kernel
theorem dX11_floorOf_1 : decode cX11_floorOf 1 = .ok (.getfield 7, 3) := by decide +kernel
theorem dX11_floorOf_4 : decode cX11_floorOf 4 = .ok (.aload_n 0, 1) := by decide +kernel
theorem dX11_floorOf_5 : decode cX11_floorOf 5 = .ok (.getfield 182, 3) := by decide +kernel
theorem dX11_floorOf_8 : decode cX11_floorOf 8 = .ok (.bipush 17, 2) := by decide +kernel
theorem dX11_floorOf_10 : decode cX11_floorOf 10 = .ok (.iadd, 1) := by decide +kernel
theorem dX11_floorOf_11 : decode cX11_floorOf 11 = .ok (.iconst 2, 1) := by decide +kernel
theorem dX11_floorOf_12 : decode cX11_floorOf 12 = .ok (.iadd, 1) := by decide +kernel
theorem dX11_floorOf_13 : decode cX11_floorOf 13 = .ok (.iconst 4, 1) := by decide +kernel
theorem dX11_floorOf_14 : decode cX11_floorOf 14 = .ok (.iload_n 1, 1) := by decide +kernel
theorem dX11_floorOf_15 : decode cX11_floorOf 15 = .ok (.imul, 1) := by decide +kernel
theorem dX11_floorOf_16 : decode cX11_floorOf 16 = .ok (.iadd, 1) := by decide +kernel
theorem dX11_floorOf_17 : decode cX11_floorOf 17 = .ok (.iaload, 1) := by decide +kernel
theorem dX11_floorOf_18 : decode cX11_floorOf 18 = .ok (.ireturn, 1) := by decide +kernel
theorem dX11_riskOf_0 : decode cX11_riskOf 0 = .ok (.aload_n 0, 1) := by decide +kernel
theorem dX11_riskOf_1 : decode cX11_riskOf 1 = .ok (.iload_n 1, 1) := by decide +kernel
theorem dX11_riskOf_2 : decode cX11_riskOf 2 = .ok (.invokevirtual 194, 3) := by decide +kernel
theorem dX11_riskOf_5 : decode cX11_riskOf 5 = .ok (.ifCond .ne 7, 3) := by decide +kernel
theorem dX11_riskOf_8 : decode cX11_riskOf 8 = .ok (.iconst 0, 1) := by decide +kernel
theorem dX11_riskOf_9 : decode cX11_riskOf 9 = .ok (.goto 21, 3) := by decide +kernel
theorem dX11_riskOf_12 : decode cX11_riskOf 12 = .ok (.aload_n 0, 1) := by decide +kernel
theorem dX11_riskOf_13 : decode cX11_riskOf 13 = .ok (.getfield 7, 3) := by decide +kernel
theorem dX11_riskOf_16 : decode cX11_riskOf 16 = .ok (.aload_n 0, 1) := by decide +kernel
theorem dX11_riskOf_17 : decode cX11_riskOf 17 = .ok (.getfield 182, 3) := by decide +kernel
theorem dX11_riskOf_20 : decode cX11_riskOf 20 = .ok (.bipush 17, 2) := by decide +kernel
theorem dX11_riskOf_22 : decode cX11_riskOf 22 = .ok (.iadd, 1) := by decide +kernel
theorem dX11_riskOf_23 : decode cX11_riskOf 23 = .ok (.iconst 3, 1) := by decide +kernel
theorem dX11_riskOf_24 : decode cX11_riskOf 24 = .ok (.iadd, 1) := by decide +kernel
theorem dX11_riskOf_25 : decode cX11_riskOf 25 = .ok (.iconst 4, 1) := by decide +kernel
theorem dX11_riskOf_26 : decode cX11_riskOf 26 = .ok (.iload_n 1, 1) := by decide +kernel
theorem dX11_riskOf_27 : decode cX11_riskOf 27 = .ok (.imul, 1) := by decide +kernel
theorem dX11_riskOf_28 : decode cX11_riskOf 28 = .ok (.iadd, 1) := by decide +kernel
theorem dX11_riskOf_29 : decode cX11_riskOf 29 = .ok (.iaload, 1) := by decide +kernel
theorem dX11_riskOf_30 : decode cX11_riskOf 30 = .ok (.ireturn, 1) := by decide +kernel
theorem dX11_breathOf_0 : decode cX11_breathOf 0 = .ok (.aload_n 0, 1) := by decide +kernel
theorem dX11_breathOf_1 : decode cX11_breathOf 1 = .ok (.getfield 7, 3) := by decide +kernel
theorem dX11_breathOf_4 : decode cX11_breathOf 4 = .ok (.aload_n 0, 1) := by decide +kernel
theorem dX11_breathOf_5 : decode cX11_breathOf 5 = .ok (.getfield 182, 3) := by decide +kernel
theorem dX11_breathOf_8 : decode cX11_breathOf 8 = .ok (.bipush 49, 2) := by decide +kernel
theorem dX11_breathOf_10 : decode cX11_breathOf 10 = .ok (.iadd, 1) := by decide +kernel
theorem dX11_breathOf_11 : decode cX11_breathOf 11 = .ok (.iconst 2, 1) := by decide +kernel
theorem dX11_breathOf_12 : decode cX11_breathOf 12 = .ok (.iadd, 1) := by decide +kernel
theorem dX11_breathOf_13 : decode cX11_breathOf 13 = .ok (.iconst 3, 1) := by decide +kernel
theorem dX11_breathOf_14 : decode cX11_breathOf 14 = .ok (.iload_n 1, 1) := by decide +kernel
theorem dX11_breathOf_15 : decode cX11_breathOf 15 = .ok (.imul, 1) := by decide +kernel
theorem dX11_breathOf_16 : decode cX11_breathOf 16 = .ok (.iadd, 1) := by decide +kernel
theorem dX11_breathOf_17 : decode cX11_breathOf 17 = .ok (.iaload, 1) := by decide +kernel
theorem dX11_breathOf_18 : decode cX11_breathOf 18 = .ok (.ireturn, 1) := by decide +kernel
theorem dX11_isWalled_0 : decode cX11_isWalled 0 = .ok (.aload_n 0, 1) := by decide +kernel
theorem dX11_isWalled_1 : decode cX11_isWalled 1 = .ok (.getfield 7, 3) := by decide +kernel
theorem dX11_isWalled_4 : decode cX11_isWalled 4 = .ok (.aload_n 0, 1) := by decide +kernel
theorem dX11_isWalled_5 : decode cX11_isWalled 5 = .ok (.getfield 182, 3) := by decide +kernel
theorem dX11_isWalled_8 : decode cX11_isWalled 8 = .ok (.iconst 4, 1) := by decide +kernel
theorem dX11_isWalled_9 : decode cX11_isWalled 9 = .ok (.iadd, 1) := by decide +kernel
theorem dX11_isWalled_10 : decode cX11_isWalled 10 = .ok (.iaload, 1) := by decide +kernel
theorem dX11_isWalled_11 : decode cX11_isWalled 11 = .ok (.iload_n 1, 1) := by decide +kernel
theorem dX11_isWalled_12 : decode cX11_isWalled 12 = .ok (.ishr, 1) := by decide +kernel
theorem dX11_isWalled_13 : decode cX11_isWalled 13 = .ok (.iconst 1, 1) := by decide +kernel
theorem dX11_isWalled_14 : decode cX11_isWalled 14 = .ok (.iand, 1) := by decide +kernel
theorem dX11_isWalled_15 : decode cX11_isWalled 15 = .ok (.iconst 1, 1) := by decide +kernel
theorem dX11_isWalled_16 : decode cX11_isWalled 16 = .ok (.if_icmp .ne 7, 3) := by decide +kernel
theorem dX11_isWalled_19 : decode cX11_isWalled 19 = .ok (.iconst 1, 1) := by decide +kernel
theorem dX11_isWalled_20 : decode cX11_isWalled 20 = .ok (.goto 4, 3) := by decide +kernel
theorem dX11_isWalled_23 : decode cX11_isWalled 23 = .ok (.iconst 0, 1) := by decide +kernel
theorem dX11_isWalled_24 : decode cX11_isWalled 24 = .ok (.ireturn, 1) := by decide +kernel
theorem dX11_reaches_0 : decode cX11_reaches 0 = .ok (.iload_n 2, 1) := by decide +kernel
theorem dX11_reaches_1 : decode cX11_reaches 1 = .ok (.aload_n 0, 1) := by decide +kernel
theorem dX11_reaches_2 : decode cX11_reaches 2 = .ok (.getfield 7, 3) := by decide +kernel
theorem dX11_reaches_5 : decode cX11_reaches 5 = .ok (.aload_n 0, 1) := by decide +kernel
theorem dX11_reaches_6 : decode cX11_reaches 6 = .ok (.getfield 182, 3) := by decide +kernel
theorem dX11_reaches_9 : decode cX11_reaches 9 = .ok (.bipush 49, 2) := by decide +kernel
theorem dX11_reaches_11 : decode cX11_reaches 11 = .ok (.iadd, 1) := by decide +kernel
theorem dX11_reaches_12 : decode cX11_reaches 12 = .ok (.iconst 3, 1) := by decide +kernel
theorem dX11_reaches_13 : decode cX11_reaches 13 = .ok (.iload_n 1, 1) := by decide +kernel
theorem dX11_reaches_14 : decode cX11_reaches 14 = .ok (.imul, 1) := by decide +kernel
theorem dX11_reaches_15 : decode cX11_reaches 15 = .ok (.iadd, 1) := by decide +kernel
theorem dX11_reaches_16 : decode cX11_reaches 16 = .ok (.iaload, 1) := by decide +kernel
theorem dX11_reaches_17 : decode cX11_reaches 17 = .ok (.aload_n 0, 1) := by decide +kernel
theorem dX11_reaches_18 : decode cX11_reaches 18 = .ok (.getfield 7, 3) := by decide +kernel
theorem dX11_reaches_21 : decode cX11_reaches 21 = .ok (.aload_n 0, 1) := by decide +kernel
theorem dX11_reaches_22 : decode cX11_reaches 22 = .ok (.getfield 182, 3) := by decide +kernel
theorem dX11_reaches_25 : decode cX11_reaches 25 = .ok (.bipush 49, 2) := by decide +kernel
theorem dX11_reaches_27 : decode cX11_reaches 27 = .ok (.iadd, 1) := by decide +kernel
theorem dX11_reaches_28 : decode cX11_reaches 28 = .ok (.iconst 1, 1) := by decide +kernel
theorem dX11_reaches_29 : decode cX11_reaches 29 = .ok (.iadd, 1) := by decide +kernel
theorem dX11_reaches_30 : decode cX11_reaches 30 = .ok (.iconst 3, 1) := by decide +kernel
theorem dX11_reaches_31 : decode cX11_reaches 31 = .ok (.iload_n 1, 1) := by decide +kernel
theorem dX11_reaches_32 : decode cX11_reaches 32 = .ok (.imul, 1) := by decide +kernel
theorem dX11_reaches_33 : decode cX11_reaches 33 = .ok (.iadd, 1) := by decide +kernel
theorem dX11_reaches_34 : decode cX11_reaches 34 = .ok (.iaload, 1) := by decide +kernel
theorem dX11_reaches_35 : decode cX11_reaches 35 = .ok (.iload_n 3, 1) := by decide +kernel
theorem dX11_reaches_36 : decode cX11_reaches 36 = .ok (.isub, 1) := by decide +kernel
theorem dX11_reaches_37 : decode cX11_reaches 37 = .ok (.invokestatic 123, 3) := by decide +kernel
theorem dX11_reaches_40 : decode cX11_reaches 40 = .ok (.ireturn, 1) := by decide +kernel
theorem dX11_house_0 : decode cX11_house 0 = .ok (.aload_n 0, 1) := by decide +kernel
theorem dX11_house_1 : decode cX11_house 1 = .ok (.iload_n 1, 1) := by decide +kernel
theorem dX11_house_2 : decode cX11_house 2 = .ok (.invokevirtual 197, 3) := by decide +kernel
theorem dX11_house_5 : decode cX11_house 5 = .ok (.ifCond .ne 5, 3) := by decide +kernel
theorem dX11_house_8 : decode cX11_house 8 = .ok (.iconst (-1), 1) := by decide +kernel
theorem dX11_house_9 : decode cX11_house 9 = .ok (.ireturn, 1) := by decide +kernel
theorem dX11_house_10 : decode cX11_house 10 = .ok (.iload_n 2, 1) := by decide +kernel
theorem dX11_house_11 : decode cX11_house 11 = .ok (.iconst 0, 1) := by decide +kernel
theorem dX11_house_12 : decode cX11_house 12 = .ok (.iconst 4, 1) := by decide +kernel
theorem dX11_house_13 : decode cX11_house 13 = .ok (.invokestatic 123, 3) := by decide +kernel
theorem dX11_house_16 : decode cX11_house 16 = .ok (.ifCond .eq 15, 3) := by decide +kernel
theorem dX11_house_19 : decode cX11_house 19 = .ok (.aload_n 0, 1) := by decide +kernel
theorem dX11_house_20 : decode cX11_house 20 = .ok (.getfield 7, 3) := by decide +kernel
theorem dX11_house_23 : decode cX11_house 23 = .ok (.aload_n 0, 1) := by decide +kernel
theorem dX11_house_24 : decode cX11_house 24 = .ok (.getfield 182, 3) := by decide +kernel
theorem dX11_house_27 : decode cX11_house 27 = .ok (.iload_n 2, 1) := by decide +kernel
theorem dX11_house_28 : decode cX11_house 28 = .ok (.iadd, 1) := by decide +kernel
theorem dX11_house_29 : decode cX11_house 29 = .ok (.iaload, 1) := by decide +kernel
theorem dX11_house_30 : decode cX11_house 30 = .ok (.ireturn, 1) := by decide +kernel
theorem dX11_house_31 : decode cX11_house 31 = .ok (.iload_n 2, 1) := by decide +kernel
theorem dX11_house_32 : decode cX11_house 32 = .ok (.bipush 10, 2) := by decide +kernel
theorem dX11_house_34 : decode cX11_house 34 = .ok (.irem, 1) := by decide +kernel
theorem dX11_house_35 : decode cX11_house 35 = .ok (.istore_n 3, 1) := by decide +kernel
theorem dX11_house_36 : decode cX11_house 36 = .ok (.iload_n 2, 1) := by decide +kernel
theorem dX11_house_37 : decode cX11_house 37 = .ok (.bipush 10, 2) := by decide +kernel
theorem dX11_house_39 : decode cX11_house 39 = .ok (.idiv, 1) := by decide +kernel
theorem dX11_house_40 : decode cX11_house 40 = .ok (.tableswitch 161 1 9 #[52, 70, 88, 88, 88, 88, 124, 124, 124], 52) := by decide +kernel
theorem dX11_house_92 : decode cX11_house 92 = .ok (.aload_n 0, 1) := by decide +kernel
theorem dX11_house_93 : decode cX11_house 93 = .ok (.iload_n 3, 1) := by decide +kernel
theorem dX11_house_94 : decode cX11_house 94 = .ok (.invokevirtual 200, 3) := by decide +kernel
theorem dX11_house_97 : decode cX11_house 97 = .ok (.ifCond .eq 11, 3) := by decide +kernel
theorem dX11_house_100 : decode cX11_house 100 = .ok (.aload_n 0, 1) := by decide +kernel
theorem dX11_house_101 : decode cX11_house 101 = .ok (.iload_n 3, 1) := by decide +kernel
theorem dX11_house_102 : decode cX11_house 102 = .ok (.invokevirtual 203, 3) := by decide +kernel
theorem dX11_house_105 : decode cX11_house 105 = .ok (.goto 4, 3) := by decide +kernel
theorem dX11_house_108 : decode cX11_house 108 = .ok (.iconst (-1), 1) := by decide +kernel
theorem dX11_house_109 : decode cX11_house 109 = .ok (.ireturn, 1) := by decide +kernel
theorem dX11_house_110 : decode cX11_house 110 = .ok (.aload_n 0, 1) := by decide +kernel
theorem dX11_house_111 : decode cX11_house 111 = .ok (.iload_n 3, 1) := by decide +kernel
theorem dX11_house_112 : decode cX11_house 112 = .ok (.invokevirtual 200, 3) := by decide +kernel
theorem dX11_house_115 : decode cX11_house 115 = .ok (.ifCond .eq 11, 3) := by decide +kernel
theorem dX11_house_118 : decode cX11_house 118 = .ok (.aload_n 0, 1) := by decide +kernel
theorem dX11_house_119 : decode cX11_house 119 = .ok (.iload_n 3, 1) := by decide +kernel
theorem dX11_house_120 : decode cX11_house 120 = .ok (.invokevirtual 206, 3) := by decide +kernel
theorem dX11_house_123 : decode cX11_house 123 = .ok (.goto 4, 3) := by decide +kernel
theorem dX11_house_126 : decode cX11_house 126 = .ok (.iconst (-1), 1) := by decide +kernel
theorem dX11_house_127 : decode cX11_house 127 = .ok (.ireturn, 1) := by decide +kernel
theorem dX11_house_128 : decode cX11_house 128 = .ok (.aload_n 0, 1) := by decide +kernel
theorem dX11_house_129 : decode cX11_house 129 = .ok (.iload_n 3, 1) := by decide +kernel
theorem dX11_house_130 : decode cX11_house 130 = .ok (.invokevirtual 209, 3) := by decide +kernel
theorem dX11_house_133 : decode cX11_house 133 = .ok (.ifCond .eq 29, 3) := by decide +kernel
theorem dX11_house_136 : decode cX11_house 136 = .ok (.aload_n 0, 1) := by decide +kernel
theorem dX11_house_137 : decode cX11_house 137 = .ok (.getfield 7, 3) := by decide +kernel
theorem dX11_house_140 : decode cX11_house 140 = .ok (.aload_n 0, 1) := by decide +kernel
theorem dX11_house_141 : decode cX11_house 141 = .ok (.getfield 182, 3) := by decide +kernel
theorem dX11_house_144 : decode cX11_house 144 = .ok (.bipush 17, 2) := by decide +kernel
theorem dX11_house_146 : decode cX11_house 146 = .ok (.iadd, 1) := by decide +kernel
theorem dX11_house_147 : decode cX11_house 147 = .ok (.iconst 4, 1) := by decide +kernel
theorem dX11_house_148 : decode cX11_house 148 = .ok (.iload_n 3, 1) := by decide +kernel
theorem dX11_house_149 : decode cX11_house 149 = .ok (.imul, 1) := by decide +kernel
theorem dX11_house_150 : decode cX11_house 150 = .ok (.iadd, 1) := by decide +kernel
theorem dX11_house_151 : decode cX11_house 151 = .ok (.iload_n 2, 1) := by decide +kernel
theorem dX11_house_152 : decode cX11_house 152 = .ok (.bipush 10, 2) := by decide +kernel
theorem dX11_house_154 : decode cX11_house 154 = .ok (.idiv, 1) := by decide +kernel
theorem dX11_house_155 : decode cX11_house 155 = .ok (.iadd, 1) := by decide +kernel
theorem dX11_house_156 : decode cX11_house 156 = .ok (.iconst 3, 1) := by decide +kernel
theorem dX11_house_157 : decode cX11_house 157 = .ok (.isub, 1) := by decide +kernel
theorem dX11_house_158 : decode cX11_house 158 = .ok (.iaload, 1) := by decide +kernel
theorem dX11_house_159 : decode cX11_house 159 = .ok (.goto 4, 3) := by decide +kernel
theorem dX11_house_162 : decode cX11_house 162 = .ok (.iconst (-1), 1) := by decide +kernel
theorem dX11_house_163 : decode cX11_house 163 = .ok (.ireturn, 1) := by decide +kernel
theorem dX11_house_164 : decode cX11_house 164 = .ok (.aload_n 0, 1) := by decide +kernel
theorem dX11_house_165 : decode cX11_house 165 = .ok (.iload_n 3, 1) := by decide +kernel
theorem dX11_house_166 : decode cX11_house 166 = .ok (.invokevirtual 212, 3) := by decide +kernel
theorem dX11_house_169 : decode cX11_house 169 = .ok (.ifCond .eq 30, 3) := by decide +kernel
theorem dX11_house_172 : decode cX11_house 172 = .ok (.aload_n 0, 1) := by decide +kernel
theorem dX11_house_173 : decode cX11_house 173 = .ok (.getfield 7, 3) := by decide +kernel
theorem dX11_house_176 : decode cX11_house 176 = .ok (.aload_n 0, 1) := by decide +kernel
theorem dX11_house_177 : decode cX11_house 177 = .ok (.getfield 182, 3) := by decide +kernel
theorem dX11_house_180 : decode cX11_house 180 = .ok (.bipush 49, 2) := by decide +kernel
theorem dX11_house_182 : decode cX11_house 182 = .ok (.iadd, 1) := by decide +kernel
theorem dX11_house_183 : decode cX11_house 183 = .ok (.iconst 3, 1) := by decide +kernel
theorem dX11_house_184 : decode cX11_house 184 = .ok (.iload_n 3, 1) := by decide +kernel
theorem dX11_house_185 : decode cX11_house 185 = .ok (.imul, 1) := by decide +kernel
theorem dX11_house_186 : decode cX11_house 186 = .ok (.iadd, 1) := by decide +kernel
theorem dX11_house_187 : decode cX11_house 187 = .ok (.iload_n 2, 1) := by decide +kernel
theorem dX11_house_188 : decode cX11_house 188 = .ok (.bipush 10, 2) := by decide +kernel
theorem dX11_house_190 : decode cX11_house 190 = .ok (.idiv, 1) := by decide +kernel
theorem dX11_house_191 : decode cX11_house 191 = .ok (.iadd, 1) := by decide +kernel
theorem dX11_house_192 : decode cX11_house 192 = .ok (.bipush 7, 2) := by decide +kernel
theorem dX11_house_194 : decode cX11_house 194 = .ok (.isub, 1) := by decide +kernel
theorem dX11_house_195 : decode cX11_house 195 = .ok (.iaload, 1) := by decide +kernel
theorem dX11_house_196 : decode cX11_house 196 = .ok (.goto 4, 3) := by decide +kernel
theorem dX11_house_199 : decode cX11_house 199 = .ok (.iconst (-1), 1) := by decide +kernel
theorem dX11_house_200 : decode cX11_house 200 = .ok (.ireturn, 1) := by decide +kernel
theorem dX11_house_201 : decode cX11_house 201 = .ok (.iconst (-1), 1) := by decide +kernel
theorem dX11_house_202 : decode cX11_house 202 = .ok (.ireturn, 1) := by decide +kernel
theorem dX11_laysRows_0 : decode cX11_laysRows 0 = .ok (.aload_n 0, 1) := by decide +kernel
theorem dX11_laysRows_1 : decode cX11_laysRows 1 = .ok (.iconst 0, 1) := by decide +kernel
theorem dX11_laysRows_2 : decode cX11_laysRows 2 = .ok (.putfield 215, 3) := by decide +kernel
theorem dX11_laysRows_5 : decode cX11_laysRows 5 = .ok (.iconst 0, 1) := by decide +kernel
theorem dX11_laysRows_6 : decode cX11_laysRows 6 = .ok (.istore 4, 2) := by decide +kernel
theorem dX11_laysRows_8 : decode cX11_laysRows 8 = .ok (.iload 4, 2) := by decide +kernel
theorem dX11_laysRows_10 : decode cX11_laysRows 10 = .ok (.iload_n 1, 1) := by decide +kernel
theorem dX11_laysRows_11 : decode cX11_laysRows 11 = .ok (.if_icmp .ge 42, 3) := by decide +kernel
theorem dX11_laysRows_14 : decode cX11_laysRows 14 = .ok (.aload_n 0, 1) := by decide +kernel
theorem dX11_laysRows_15 : decode cX11_laysRows 15 = .ok (.iload 4, 2) := by decide +kernel
theorem dX11_laysRows_17 : decode cX11_laysRows 17 = .ok (.invokevirtual 194, 3) := by decide +kernel
theorem dX11_laysRows_20 : decode cX11_laysRows 20 = .ok (.ifCond .ne 6, 3) := by decide +kernel
theorem dX11_laysRows_23 : decode cX11_laysRows 23 = .ok (.goto 24, 3) := by decide +kernel
theorem dX11_laysRows_26 : decode cX11_laysRows 26 = .ok (.aload_n 0, 1) := by decide +kernel
theorem dX11_laysRows_27 : decode cX11_laysRows 27 = .ok (.getfield 20, 3) := by decide +kernel
theorem dX11_laysRows_30 : decode cX11_laysRows 30 = .ok (.aload_n 0, 1) := by decide +kernel
theorem dX11_laysRows_31 : decode cX11_laysRows 31 = .ok (.getfield 215, 3) := by decide +kernel
theorem dX11_laysRows_34 : decode cX11_laysRows 34 = .ok (.iload 4, 2) := by decide +kernel
theorem dX11_laysRows_36 : decode cX11_laysRows 36 = .ok (.iastore, 1) := by decide +kernel
theorem dX11_laysRows_37 : decode cX11_laysRows 37 = .ok (.aload_n 0, 1) := by decide +kernel
theorem dX11_laysRows_38 : decode cX11_laysRows 38 = .ok (.dup, 1) := by decide +kernel
theorem dX11_laysRows_39 : decode cX11_laysRows 39 = .ok (.getfield 215, 3) := by decide +kernel
theorem dX11_laysRows_42 : decode cX11_laysRows 42 = .ok (.iconst 1, 1) := by decide +kernel
theorem dX11_laysRows_43 : decode cX11_laysRows 43 = .ok (.iadd, 1) := by decide +kernel
theorem dX11_laysRows_44 : decode cX11_laysRows 44 = .ok (.putfield 215, 3) := by decide +kernel
theorem dX11_laysRows_47 : decode cX11_laysRows 47 = .ok (.iinc 4 1, 3) := by decide +kernel
theorem dX11_laysRows_50 : decode cX11_laysRows 50 = .ok (.goto (-42), 3) := by decide +kernel
theorem dX11_laysRows_53 : decode cX11_laysRows 53 = .ok (.iconst 0, 1) := by decide +kernel
theorem dX11_laysRows_54 : decode cX11_laysRows 54 = .ok (.istore 4, 2) := by decide +kernel
theorem dX11_laysRows_56 : decode cX11_laysRows 56 = .ok (.iload 4, 2) := by decide +kernel
theorem dX11_laysRows_58 : decode cX11_laysRows 58 = .ok (.bipush 6, 2) := by decide +kernel
theorem dX11_laysRows_60 : decode cX11_laysRows 60 = .ok (.if_icmp .ge 46, 3) := by decide +kernel
theorem dX11_laysRows_63 : decode cX11_laysRows 63 = .ok (.aload_n 0, 1) := by decide +kernel
theorem dX11_laysRows_64 : decode cX11_laysRows 64 = .ok (.getfield 26, 3) := by decide +kernel
theorem dX11_laysRows_67 : decode cX11_laysRows 67 = .ok (.iload 4, 2) := by decide +kernel
theorem dX11_laysRows_69 : decode cX11_laysRows 69 = .ok (.iconst 0, 1) := by decide +kernel
theorem dX11_laysRows_70 : decode cX11_laysRows 70 = .ok (.iastore, 1) := by decide +kernel
theorem dX11_laysRows_71 : decode cX11_laysRows 71 = .ok (.aload_n 0, 1) := by decide +kernel
theorem dX11_laysRows_72 : decode cX11_laysRows 72 = .ok (.getfield 29, 3) := by decide +kernel
theorem dX11_laysRows_75 : decode cX11_laysRows 75 = .ok (.iload 4, 2) := by decide +kernel
theorem dX11_laysRows_77 : decode cX11_laysRows 77 = .ok (.iload 4, 2) := by decide +kernel
theorem dX11_laysRows_79 : decode cX11_laysRows 79 = .ok (.aload_n 0, 1) := by decide +kernel
theorem dX11_laysRows_80 : decode cX11_laysRows 80 = .ok (.getfield 191, 3) := by decide +kernel
theorem dX11_laysRows_83 : decode cX11_laysRows 83 = .ok (.if_icmp .ge 14, 3) := by decide +kernel
theorem dX11_laysRows_86 : decode cX11_laysRows 86 = .ok (.aload_n 0, 1) := by decide +kernel
theorem dX11_laysRows_87 : decode cX11_laysRows 87 = .ok (.iload 4, 2) := by decide +kernel
theorem dX11_laysRows_89 : decode cX11_laysRows 89 = .ok (.invokevirtual 218, 3) := by decide +kernel
theorem dX11_laysRows_92 : decode cX11_laysRows 92 = .ok (.iload_n 3, 1) := by decide +kernel
theorem dX11_laysRows_93 : decode cX11_laysRows 93 = .ok (.iadd, 1) := by decide +kernel
theorem dX11_laysRows_94 : decode cX11_laysRows 94 = .ok (.goto 5, 3) := by decide +kernel
theorem dX11_laysRows_97 : decode cX11_laysRows 97 = .ok (.ldc 221, 2) := by decide +kernel
theorem dX11_laysRows_99 : decode cX11_laysRows 99 = .ok (.iastore, 1) := by decide +kernel
theorem dX11_laysRows_100 : decode cX11_laysRows 100 = .ok (.iinc 4 1, 3) := by decide +kernel
theorem dX11_laysRows_103 : decode cX11_laysRows 103 = .ok (.goto (-47), 3) := by decide +kernel
theorem dX11_laysRows_106 : decode cX11_laysRows 106 = .ok (.aload_n 0, 1) := by decide +kernel
theorem dX11_laysRows_107 : decode cX11_laysRows 107 = .ok (.iload_n 2, 1) := by decide +kernel
theorem dX11_laysRows_108 : decode cX11_laysRows 108 = .ok (.putfield 222, 3) := by decide +kernel
theorem dX11_laysRows_111 : decode cX11_laysRows 111 = .ok (.aload_n 0, 1) := by decide +kernel
theorem dX11_laysRows_112 : decode cX11_laysRows 112 = .ok (.iconst 0, 1) := by decide +kernel
theorem dX11_laysRows_113 : decode cX11_laysRows 113 = .ok (.putfield 225, 3) := by decide +kernel
theorem dX11_laysRows_116 : decode cX11_laysRows 116 = .ok (.aload_n 0, 1) := by decide +kernel
theorem dX11_laysRows_117 : decode cX11_laysRows 117 = .ok (.getfield 23, 3) := by decide +kernel
theorem dX11_laysRows_120 : decode cX11_laysRows 120 = .ok (.iconst 0, 1) := by decide +kernel
theorem dX11_laysRows_121 : decode cX11_laysRows 121 = .ok (.iconst (-1), 1) := by decide +kernel
theorem dX11_laysRows_122 : decode cX11_laysRows 122 = .ok (.iastore, 1) := by decide +kernel
theorem dX11_laysRows_123 : decode cX11_laysRows 123 = .ok (.return_, 1) := by decide +kernel
theorem dX11_maySing_0 : decode cX11_maySing 0 = .ok (.aload_n 0, 1) := by decide +kernel
theorem dX11_maySing_1 : decode cX11_maySing 1 = .ok (.getfield 20, 3) := by decide +kernel
theorem dX11_maySing_4 : decode cX11_maySing 4 = .ok (.aload_n 0, 1) := by decide +kernel
theorem dX11_maySing_5 : decode cX11_maySing 5 = .ok (.getfield 225, 3) := by decide +kernel
theorem dX11_maySing_8 : decode cX11_maySing 8 = .ok (.iaload, 1) := by decide +kernel
theorem dX11_maySing_9 : decode cX11_maySing 9 = .ok (.istore_n 2, 1) := by decide +kernel
theorem dX11_maySing_10 : decode cX11_maySing 10 = .ok (.aload_n 0, 1) := by decide +kernel
theorem dX11_maySing_11 : decode cX11_maySing 11 = .ok (.getfield 222, 3) := by decide +kernel
theorem dX11_maySing_14 : decode cX11_maySing 14 = .ok (.iload_n 1, 1) := by decide +kernel
theorem dX11_maySing_15 : decode cX11_maySing 15 = .ok (.ishr, 1) := by decide +kernel
theorem dX11_maySing_16 : decode cX11_maySing 16 = .ok (.iconst 1, 1) := by decide +kernel
theorem dX11_maySing_17 : decode cX11_maySing 17 = .ok (.iand, 1) := by decide +kernel
theorem dX11_maySing_18 : decode cX11_maySing 18 = .ok (.ifCond .eq 25, 3) := by decide +kernel
theorem dX11_maySing_21 : decode cX11_maySing 21 = .ok (.iload_n 1, 1) := by decide +kernel
theorem dX11_maySing_22 : decode cX11_maySing 22 = .ok (.aload_n 0, 1) := by decide +kernel
theorem dX11_maySing_23 : decode cX11_maySing 23 = .ok (.getfield 191, 3) := by decide +kernel
theorem dX11_maySing_26 : decode cX11_maySing 26 = .ok (.if_icmp .ge 19, 3) := by decide +kernel
theorem dX11_maySing_29 : decode cX11_maySing 29 = .ok (.aload_n 0, 1) := by decide +kernel
theorem dX11_maySing_30 : decode cX11_maySing 30 = .ok (.iload_n 1, 1) := by decide +kernel
theorem dX11_maySing_31 : decode cX11_maySing 31 = .ok (.aload_n 0, 1) := by decide +kernel
theorem dX11_maySing_32 : decode cX11_maySing 32 = .ok (.iload_n 2, 1) := by decide +kernel
theorem dX11_maySing_33 : decode cX11_maySing 33 = .ok (.invokevirtual 194, 3) := by decide +kernel
theorem dX11_maySing_36 : decode cX11_maySing 36 = .ok (.iconst 0, 1) := by decide +kernel
theorem dX11_maySing_37 : decode cX11_maySing 37 = .ok (.invokevirtual 228, 3) := by decide +kernel
theorem dX11_maySing_40 : decode cX11_maySing 40 = .ok (.ifCond .ne 5, 3) := by decide +kernel
theorem dX11_maySing_43 : decode cX11_maySing 43 = .ok (.iconst 0, 1) := by decide +kernel
theorem dX11_maySing_44 : decode cX11_maySing 44 = .ok (.ireturn, 1) := by decide +kernel
theorem dX11_maySing_45 : decode cX11_maySing 45 = .ok (.aload_n 0, 1) := by decide +kernel
theorem dX11_maySing_46 : decode cX11_maySing 46 = .ok (.getfield 225, 3) := by decide +kernel
theorem dX11_maySing_49 : decode cX11_maySing 49 = .ok (.ifCond .le 37, 3) := by decide +kernel
theorem dX11_maySing_52 : decode cX11_maySing 52 = .ok (.aload_n 0, 1) := by decide +kernel
theorem dX11_maySing_53 : decode cX11_maySing 53 = .ok (.getfield 20, 3) := by decide +kernel
theorem dX11_maySing_56 : decode cX11_maySing 56 = .ok (.aload_n 0, 1) := by decide +kernel
theorem dX11_maySing_57 : decode cX11_maySing 57 = .ok (.getfield 225, 3) := by decide +kernel
theorem dX11_maySing_60 : decode cX11_maySing 60 = .ok (.iconst 1, 1) := by decide +kernel
theorem dX11_maySing_61 : decode cX11_maySing 61 = .ok (.isub, 1) := by decide +kernel
theorem dX11_maySing_62 : decode cX11_maySing 62 = .ok (.iaload, 1) := by decide +kernel
theorem dX11_maySing_63 : decode cX11_maySing 63 = .ok (.iload_n 2, 1) := by decide +kernel
theorem dX11_maySing_64 : decode cX11_maySing 64 = .ok (.iconst 1, 1) := by decide +kernel
theorem dX11_maySing_65 : decode cX11_maySing 65 = .ok (.isub, 1) := by decide +kernel
theorem dX11_maySing_66 : decode cX11_maySing 66 = .ok (.if_icmp .ne 20, 3) := by decide +kernel
theorem dX11_maySing_69 : decode cX11_maySing 69 = .ok (.aload_n 0, 1) := by decide +kernel
theorem dX11_maySing_70 : decode cX11_maySing 70 = .ok (.getfield 23, 3) := by decide +kernel
theorem dX11_maySing_73 : decode cX11_maySing 73 = .ok (.aload_n 0, 1) := by decide +kernel
theorem dX11_maySing_74 : decode cX11_maySing 74 = .ok (.getfield 225, 3) := by decide +kernel
theorem dX11_maySing_77 : decode cX11_maySing 77 = .ok (.iconst 1, 1) := by decide +kernel
theorem dX11_maySing_78 : decode cX11_maySing 78 = .ok (.isub, 1) := by decide +kernel
theorem dX11_maySing_79 : decode cX11_maySing 79 = .ok (.iaload, 1) := by decide +kernel
theorem dX11_maySing_80 : decode cX11_maySing 80 = .ok (.iload_n 1, 1) := by decide +kernel
theorem dX11_maySing_81 : decode cX11_maySing 81 = .ok (.if_icmp .ne 5, 3) := by decide +kernel
theorem dX11_maySing_84 : decode cX11_maySing 84 = .ok (.iconst 0, 1) := by decide +kernel
theorem dX11_maySing_85 : decode cX11_maySing 85 = .ok (.ireturn, 1) := by decide +kernel
theorem dX11_maySing_86 : decode cX11_maySing 86 = .ok (.aload_n 0, 1) := by decide +kernel
theorem dX11_maySing_87 : decode cX11_maySing 87 = .ok (.getfield 26, 3) := by decide +kernel
theorem dX11_maySing_90 : decode cX11_maySing 90 = .ok (.iload_n 1, 1) := by decide +kernel
theorem dX11_maySing_91 : decode cX11_maySing 91 = .ok (.iaload, 1) := by decide +kernel
theorem dX11_maySing_92 : decode cX11_maySing 92 = .ok (.aload_n 0, 1) := by decide +kernel
theorem dX11_maySing_93 : decode cX11_maySing 93 = .ok (.iload_n 2, 1) := by decide +kernel
theorem dX11_maySing_94 : decode cX11_maySing 94 = .ok (.invokevirtual 231, 3) := by decide +kernel
theorem dX11_maySing_97 : decode cX11_maySing 97 = .ok (.iadd, 1) := by decide +kernel
theorem dX11_maySing_98 : decode cX11_maySing 98 = .ok (.aload_n 0, 1) := by decide +kernel
theorem dX11_maySing_99 : decode cX11_maySing 99 = .ok (.getfield 29, 3) := by decide +kernel
theorem dX11_maySing_102 : decode cX11_maySing 102 = .ok (.iload_n 1, 1) := by decide +kernel
theorem dX11_maySing_103 : decode cX11_maySing 103 = .ok (.iaload, 1) := by decide +kernel
theorem dX11_maySing_104 : decode cX11_maySing 104 = .ok (.if_icmp .gt 7, 3) := by decide +kernel
theorem dX11_maySing_107 : decode cX11_maySing 107 = .ok (.iconst 1, 1) := by decide +kernel
theorem dX11_maySing_108 : decode cX11_maySing 108 = .ok (.goto 4, 3) := by decide +kernel
theorem dX11_maySing_111 : decode cX11_maySing 111 = .ok (.iconst 0, 1) := by decide +kernel
theorem dX11_maySing_112 : decode cX11_maySing 112 = .ok (.ireturn, 1) := by decide +kernel
theorem dX11_goesOn_0 : decode cX11_goesOn 0 = .ok (.aload_n 0, 1) := by decide +kernel
theorem dX11_goesOn_1 : decode cX11_goesOn 1 = .ok (.getfield 215, 3) := by decide +kernel
theorem dX11_goesOn_4 : decode cX11_goesOn 4 = .ok (.ifCond .ne 27, 3) := by decide +kernel
theorem dX11_goesOn_7 : decode cX11_goesOn 7 = .ok (.aload_n 0, 1) := by decide +kernel
theorem dX11_goesOn_8 : decode cX11_goesOn 8 = .ok (.dup, 1) := by decide +kernel
theorem dX11_goesOn_9 : decode cX11_goesOn 9 = .ok (.getfield 225, 3) := by decide +kernel
theorem dX11_goesOn_12 : decode cX11_goesOn 12 = .ok (.iconst 1, 1) := by decide +kernel
theorem dX11_goesOn_13 : decode cX11_goesOn 13 = .ok (.isub, 1) := by decide +kernel
theorem dX11_goesOn_14 : decode cX11_goesOn 14 = .ok (.putfield 225, 3) := by decide +kernel
theorem dX11_goesOn_17 : decode cX11_goesOn 17 = .ok (.aload_n 0, 1) := by decide +kernel
theorem dX11_goesOn_18 : decode cX11_goesOn 18 = .ok (.getfield 225, 3) := by decide +kernel
theorem dX11_goesOn_21 : decode cX11_goesOn 21 = .ok (.iconst (-1), 1) := by decide +kernel
theorem dX11_goesOn_22 : decode cX11_goesOn 22 = .ok (.if_icmp .ne 7, 3) := by decide +kernel
theorem dX11_goesOn_25 : decode cX11_goesOn 25 = .ok (.iconst 1, 1) := by decide +kernel
theorem dX11_goesOn_26 : decode cX11_goesOn 26 = .ok (.goto 4, 3) := by decide +kernel
theorem dX11_goesOn_29 : decode cX11_goesOn 29 = .ok (.iconst 0, 1) := by decide +kernel
theorem dX11_goesOn_30 : decode cX11_goesOn 30 = .ok (.ireturn, 1) := by decide +kernel
theorem dX11_goesOn_31 : decode cX11_goesOn 31 = .ok (.aload_n 0, 1) := by decide +kernel
theorem dX11_goesOn_32 : decode cX11_goesOn 32 = .ok (.getfield 225, 3) := by decide +kernel
theorem dX11_goesOn_35 : decode cX11_goesOn 35 = .ok (.ifCond .lt 204, 3) := by decide +kernel
theorem dX11_goesOn_38 : decode cX11_goesOn 38 = .ok (.aload_n 0, 1) := by decide +kernel
theorem dX11_goesOn_39 : decode cX11_goesOn 39 = .ok (.getfield 20, 3) := by decide +kernel
theorem dX11_goesOn_42 : decode cX11_goesOn 42 = .ok (.aload_n 0, 1) := by decide +kernel
theorem dX11_goesOn_43 : decode cX11_goesOn 43 = .ok (.getfield 225, 3) := by decide +kernel
theorem dX11_goesOn_46 : decode cX11_goesOn 46 = .ok (.iaload, 1) := by decide +kernel
theorem dX11_goesOn_47 : decode cX11_goesOn 47 = .ok (.istore_n 1, 1) := by decide +kernel
theorem dX11_goesOn_48 : decode cX11_goesOn 48 = .ok (.aload_n 0, 1) := by decide +kernel
theorem dX11_goesOn_49 : decode cX11_goesOn 49 = .ok (.getfield 23, 3) := by decide +kernel
theorem dX11_goesOn_52 : decode cX11_goesOn 52 = .ok (.aload_n 0, 1) := by decide +kernel
theorem dX11_goesOn_53 : decode cX11_goesOn 53 = .ok (.getfield 225, 3) := by decide +kernel
theorem dX11_goesOn_56 : decode cX11_goesOn 56 = .ok (.iaload, 1) := by decide +kernel
theorem dX11_goesOn_57 : decode cX11_goesOn 57 = .ok (.iconst (-1), 1) := by decide +kernel
theorem dX11_goesOn_58 : decode cX11_goesOn 58 = .ok (.if_icmp .eq 25, 3) := by decide +kernel
theorem dX11_goesOn_61 : decode cX11_goesOn 61 = .ok (.aload_n 0, 1) := by decide +kernel
theorem dX11_goesOn_62 : decode cX11_goesOn 62 = .ok (.getfield 26, 3) := by decide +kernel
theorem dX11_goesOn_65 : decode cX11_goesOn 65 = .ok (.aload_n 0, 1) := by decide +kernel
theorem dX11_goesOn_66 : decode cX11_goesOn 66 = .ok (.getfield 23, 3) := by decide +kernel
theorem dX11_goesOn_69 : decode cX11_goesOn 69 = .ok (.aload_n 0, 1) := by decide +kernel
theorem dX11_goesOn_70 : decode cX11_goesOn 70 = .ok (.getfield 225, 3) := by decide +kernel
theorem dX11_goesOn_73 : decode cX11_goesOn 73 = .ok (.iaload, 1) := by decide +kernel
theorem dX11_goesOn_74 : decode cX11_goesOn 74 = .ok (.dup2, 1) := by decide +kernel
theorem dX11_goesOn_75 : decode cX11_goesOn 75 = .ok (.iaload, 1) := by decide +kernel
theorem dX11_goesOn_76 : decode cX11_goesOn 76 = .ok (.aload_n 0, 1) := by decide +kernel
theorem dX11_goesOn_77 : decode cX11_goesOn 77 = .ok (.iload_n 1, 1) := by decide +kernel
theorem dX11_goesOn_78 : decode cX11_goesOn 78 = .ok (.invokevirtual 231, 3) := by decide +kernel
theorem dX11_goesOn_81 : decode cX11_goesOn 81 = .ok (.isub, 1) := by decide +kernel
theorem dX11_goesOn_82 : decode cX11_goesOn 82 = .ok (.iastore, 1) := by decide +kernel
theorem dX11_goesOn_83 : decode cX11_goesOn 83 = .ok (.aload_n 0, 1) := by decide +kernel
theorem dX11_goesOn_84 : decode cX11_goesOn 84 = .ok (.getfield 23, 3) := by decide +kernel
theorem dX11_goesOn_87 : decode cX11_goesOn 87 = .ok (.aload_n 0, 1) := by decide +kernel
theorem dX11_goesOn_88 : decode cX11_goesOn 88 = .ok (.getfield 225, 3) := by decide +kernel
theorem dX11_goesOn_91 : decode cX11_goesOn 91 = .ok (.dup2, 1) := by decide +kernel
theorem dX11_goesOn_92 : decode cX11_goesOn 92 = .ok (.iaload, 1) := by decide +kernel
theorem dX11_goesOn_93 : decode cX11_goesOn 93 = .ok (.iconst 1, 1) := by decide +kernel
theorem dX11_goesOn_94 : decode cX11_goesOn 94 = .ok (.iadd, 1) := by decide +kernel
theorem dX11_goesOn_95 : decode cX11_goesOn 95 = .ok (.iastore, 1) := by decide +kernel
theorem dX11_goesOn_96 : decode cX11_goesOn 96 = .ok (.aload_n 0, 1) := by decide +kernel
theorem dX11_goesOn_97 : decode cX11_goesOn 97 = .ok (.getfield 23, 3) := by decide +kernel
theorem dX11_goesOn_100 : decode cX11_goesOn 100 = .ok (.aload_n 0, 1) := by decide +kernel
theorem dX11_goesOn_101 : decode cX11_goesOn 101 = .ok (.getfield 225, 3) := by decide +kernel
theorem dX11_goesOn_104 : decode cX11_goesOn 104 = .ok (.iaload, 1) := by decide +kernel
theorem dX11_goesOn_105 : decode cX11_goesOn 105 = .ok (.bipush 6, 2) := by decide +kernel
theorem dX11_goesOn_107 : decode cX11_goesOn 107 = .ok (.if_icmp .ge 35, 3) := by decide +kernel
theorem dX11_goesOn_110 : decode cX11_goesOn 110 = .ok (.aload_n 0, 1) := by decide +kernel
theorem dX11_goesOn_111 : decode cX11_goesOn 111 = .ok (.aload_n 0, 1) := by decide +kernel
theorem dX11_goesOn_112 : decode cX11_goesOn 112 = .ok (.getfield 23, 3) := by decide +kernel
theorem dX11_goesOn_115 : decode cX11_goesOn 115 = .ok (.aload_n 0, 1) := by decide +kernel
theorem dX11_goesOn_116 : decode cX11_goesOn 116 = .ok (.getfield 225, 3) := by decide +kernel
theorem dX11_goesOn_119 : decode cX11_goesOn 119 = .ok (.iaload, 1) := by decide +kernel
theorem dX11_goesOn_120 : decode cX11_goesOn 120 = .ok (.invokevirtual 234, 3) := by decide +kernel
theorem dX11_goesOn_123 : decode cX11_goesOn 123 = .ok (.ifCond .ne 19, 3) := by decide +kernel
theorem dX11_goesOn_126 : decode cX11_goesOn 126 = .ok (.aload_n 0, 1) := by decide +kernel
theorem dX11_goesOn_127 : decode cX11_goesOn 127 = .ok (.getfield 23, 3) := by decide +kernel
theorem dX11_goesOn_130 : decode cX11_goesOn 130 = .ok (.aload_n 0, 1) := by decide +kernel
theorem dX11_goesOn_131 : decode cX11_goesOn 131 = .ok (.getfield 225, 3) := by decide +kernel
theorem dX11_goesOn_134 : decode cX11_goesOn 134 = .ok (.dup2, 1) := by decide +kernel
theorem dX11_goesOn_135 : decode cX11_goesOn 135 = .ok (.iaload, 1) := by decide +kernel
theorem dX11_goesOn_136 : decode cX11_goesOn 136 = .ok (.iconst 1, 1) := by decide +kernel
theorem dX11_goesOn_137 : decode cX11_goesOn 137 = .ok (.iadd, 1) := by decide +kernel
theorem dX11_goesOn_138 : decode cX11_goesOn 138 = .ok (.iastore, 1) := by decide +kernel
theorem dX11_goesOn_139 : decode cX11_goesOn 139 = .ok (.goto (-43), 3) := by decide +kernel
theorem dX11_goesOn_142 : decode cX11_goesOn 142 = .ok (.aload_n 0, 1) := by decide +kernel
theorem dX11_goesOn_143 : decode cX11_goesOn 143 = .ok (.getfield 23, 3) := by decide +kernel
theorem dX11_goesOn_146 : decode cX11_goesOn 146 = .ok (.aload_n 0, 1) := by decide +kernel
theorem dX11_goesOn_147 : decode cX11_goesOn 147 = .ok (.getfield 225, 3) := by decide +kernel
theorem dX11_goesOn_150 : decode cX11_goesOn 150 = .ok (.iaload, 1) := by decide +kernel
theorem dX11_goesOn_151 : decode cX11_goesOn 151 = .ok (.bipush 6, 2) := by decide +kernel
theorem dX11_goesOn_153 : decode cX11_goesOn 153 = .ok (.if_icmp .ne 26, 3) := by decide +kernel
theorem dX11_goesOn_156 : decode cX11_goesOn 156 = .ok (.aload_n 0, 1) := by decide +kernel
theorem dX11_goesOn_157 : decode cX11_goesOn 157 = .ok (.getfield 23, 3) := by decide +kernel
theorem dX11_goesOn_160 : decode cX11_goesOn 160 = .ok (.aload_n 0, 1) := by decide +kernel
theorem dX11_goesOn_161 : decode cX11_goesOn 161 = .ok (.getfield 225, 3) := by decide +kernel
theorem dX11_goesOn_164 : decode cX11_goesOn 164 = .ok (.iconst (-1), 1) := by decide +kernel
theorem dX11_goesOn_165 : decode cX11_goesOn 165 = .ok (.iastore, 1) := by decide +kernel
theorem dX11_goesOn_166 : decode cX11_goesOn 166 = .ok (.aload_n 0, 1) := by decide +kernel
theorem dX11_goesOn_167 : decode cX11_goesOn 167 = .ok (.dup, 1) := by decide +kernel
theorem dX11_goesOn_168 : decode cX11_goesOn 168 = .ok (.getfield 225, 3) := by decide +kernel
theorem dX11_goesOn_171 : decode cX11_goesOn 171 = .ok (.iconst 1, 1) := by decide +kernel
theorem dX11_goesOn_172 : decode cX11_goesOn 172 = .ok (.isub, 1) := by decide +kernel
theorem dX11_goesOn_173 : decode cX11_goesOn 173 = .ok (.putfield 225, 3) := by decide +kernel
theorem dX11_goesOn_176 : decode cX11_goesOn 176 = .ok (.goto (-145), 3) := by decide +kernel
theorem dX11_goesOn_179 : decode cX11_goesOn 179 = .ok (.aload_n 0, 1) := by decide +kernel
theorem dX11_goesOn_180 : decode cX11_goesOn 180 = .ok (.getfield 26, 3) := by decide +kernel
theorem dX11_goesOn_183 : decode cX11_goesOn 183 = .ok (.aload_n 0, 1) := by decide +kernel
theorem dX11_goesOn_184 : decode cX11_goesOn 184 = .ok (.getfield 23, 3) := by decide +kernel
theorem dX11_goesOn_187 : decode cX11_goesOn 187 = .ok (.aload_n 0, 1) := by decide +kernel
theorem dX11_goesOn_188 : decode cX11_goesOn 188 = .ok (.getfield 225, 3) := by decide +kernel
theorem dX11_goesOn_191 : decode cX11_goesOn 191 = .ok (.iaload, 1) := by decide +kernel
theorem dX11_goesOn_192 : decode cX11_goesOn 192 = .ok (.dup2, 1) := by decide +kernel
theorem dX11_goesOn_193 : decode cX11_goesOn 193 = .ok (.iaload, 1) := by decide +kernel
theorem dX11_goesOn_194 : decode cX11_goesOn 194 = .ok (.aload_n 0, 1) := by decide +kernel
theorem dX11_goesOn_195 : decode cX11_goesOn 195 = .ok (.iload_n 1, 1) := by decide +kernel
theorem dX11_goesOn_196 : decode cX11_goesOn 196 = .ok (.invokevirtual 231, 3) := by decide +kernel
theorem dX11_goesOn_199 : decode cX11_goesOn 199 = .ok (.iadd, 1) := by decide +kernel
theorem dX11_goesOn_200 : decode cX11_goesOn 200 = .ok (.iastore, 1) := by decide +kernel
theorem dX11_goesOn_201 : decode cX11_goesOn 201 = .ok (.aload_n 0, 1) := by decide +kernel
theorem dX11_goesOn_202 : decode cX11_goesOn 202 = .ok (.getfield 225, 3) := by decide +kernel
theorem dX11_goesOn_205 : decode cX11_goesOn 205 = .ok (.aload_n 0, 1) := by decide +kernel
theorem dX11_goesOn_206 : decode cX11_goesOn 206 = .ok (.getfield 215, 3) := by decide +kernel
theorem dX11_goesOn_209 : decode cX11_goesOn 209 = .ok (.iconst 1, 1) := by decide +kernel
theorem dX11_goesOn_210 : decode cX11_goesOn 210 = .ok (.isub, 1) := by decide +kernel
theorem dX11_goesOn_211 : decode cX11_goesOn 211 = .ok (.if_icmp .ne 5, 3) := by decide +kernel
theorem dX11_goesOn_214 : decode cX11_goesOn 214 = .ok (.iconst 1, 1) := by decide +kernel
theorem dX11_goesOn_215 : decode cX11_goesOn 215 = .ok (.ireturn, 1) := by decide +kernel
theorem dX11_goesOn_216 : decode cX11_goesOn 216 = .ok (.aload_n 0, 1) := by decide +kernel
theorem dX11_goesOn_217 : decode cX11_goesOn 217 = .ok (.dup, 1) := by decide +kernel
theorem dX11_goesOn_218 : decode cX11_goesOn 218 = .ok (.getfield 225, 3) := by decide +kernel
theorem dX11_goesOn_221 : decode cX11_goesOn 221 = .ok (.iconst 1, 1) := by decide +kernel
theorem dX11_goesOn_222 : decode cX11_goesOn 222 = .ok (.iadd, 1) := by decide +kernel
theorem dX11_goesOn_223 : decode cX11_goesOn 223 = .ok (.putfield 225, 3) := by decide +kernel
theorem dX11_goesOn_226 : decode cX11_goesOn 226 = .ok (.aload_n 0, 1) := by decide +kernel
theorem dX11_goesOn_227 : decode cX11_goesOn 227 = .ok (.getfield 23, 3) := by decide +kernel
theorem dX11_goesOn_230 : decode cX11_goesOn 230 = .ok (.aload_n 0, 1) := by decide +kernel
theorem dX11_goesOn_231 : decode cX11_goesOn 231 = .ok (.getfield 225, 3) := by decide +kernel
theorem dX11_goesOn_234 : decode cX11_goesOn 234 = .ok (.iconst (-1), 1) := by decide +kernel
theorem dX11_goesOn_235 : decode cX11_goesOn 235 = .ok (.iastore, 1) := by decide +kernel
theorem dX11_goesOn_236 : decode cX11_goesOn 236 = .ok (.goto (-205), 3) := by decide +kernel
theorem dX11_goesOn_239 : decode cX11_goesOn 239 = .ok (.iconst 0, 1) := by decide +kernel
theorem dX11_goesOn_240 : decode cX11_goesOn 240 = .ok (.ireturn, 1) := by decide +kernel
theorem dX11_everybody_0 : decode cX11_everybody 0 = .ok (.iconst 1, 1) := by decide +kernel
theorem dX11_everybody_1 : decode cX11_everybody 1 = .ok (.aload_n 0, 1) := by decide +kernel
theorem dX11_everybody_2 : decode cX11_everybody 2 = .ok (.getfield 191, 3) := by decide +kernel
theorem dX11_everybody_5 : decode cX11_everybody 5 = .ok (.ishl, 1) := by decide +kernel
theorem dX11_everybody_6 : decode cX11_everybody 6 = .ok (.iconst 1, 1) := by decide +kernel
theorem dX11_everybody_7 : decode cX11_everybody 7 = .ok (.isub, 1) := by decide +kernel
theorem dX11_everybody_8 : decode cX11_everybody 8 = .ok (.ireturn, 1) := by decide +kernel
theorem dX11_isRota_0 : decode cX11_isRota 0 = .ok (.aload_n 0, 1) := by decide +kernel
theorem dX11_isRota_1 : decode cX11_isRota 1 = .ok (.iload_n 1, 1) := by decide +kernel
theorem dX11_isRota_2 : decode cX11_isRota 2 = .ok (.iload_n 2, 1) := by decide +kernel
theorem dX11_isRota_3 : decode cX11_isRota 3 = .ok (.iload_n 3, 1) := by decide +kernel
theorem dX11_isRota_4 : decode cX11_isRota 4 = .ok (.invokevirtual 237, 3) := by decide +kernel
theorem dX11_isRota_7 : decode cX11_isRota 7 = .ok (.aload_n 0, 1) := by decide +kernel
theorem dX11_isRota_8 : decode cX11_isRota 8 = .ok (.invokevirtual 241, 3) := by decide +kernel
theorem dX11_isRota_11 : decode cX11_isRota 11 = .ok (.ireturn, 1) := by decide +kernel
theorem dX11_singerOf_0 : decode cX11_singerOf 0 = .ok (.iconst 5, 1) := by decide +kernel
theorem dX11_singerOf_1 : decode cX11_singerOf 1 = .ok (.istore_n 2, 1) := by decide +kernel
theorem dX11_singerOf_2 : decode cX11_singerOf 2 = .ok (.iconst 0, 1) := by decide +kernel
theorem dX11_singerOf_3 : decode cX11_singerOf 3 = .ok (.istore_n 3, 1) := by decide +kernel
theorem dX11_singerOf_4 : decode cX11_singerOf 4 = .ok (.iload_n 3, 1) := by decide +kernel
theorem dX11_singerOf_5 : decode cX11_singerOf 5 = .ok (.aload_n 0, 1) := by decide +kernel
theorem dX11_singerOf_6 : decode cX11_singerOf 6 = .ok (.getfield 215, 3) := by decide +kernel
theorem dX11_singerOf_9 : decode cX11_singerOf 9 = .ok (.if_icmp .ge 30, 3) := by decide +kernel
theorem dX11_singerOf_12 : decode cX11_singerOf 12 = .ok (.aload_n 0, 1) := by decide +kernel
theorem dX11_singerOf_13 : decode cX11_singerOf 13 = .ok (.getfield 20, 3) := by decide +kernel
theorem dX11_singerOf_16 : decode cX11_singerOf 16 = .ok (.iload_n 3, 1) := by decide +kernel
theorem dX11_singerOf_17 : decode cX11_singerOf 17 = .ok (.iaload, 1) := by decide +kernel
theorem dX11_singerOf_18 : decode cX11_singerOf 18 = .ok (.iload_n 1, 1) := by decide +kernel
theorem dX11_singerOf_19 : decode cX11_singerOf 19 = .ok (.if_icmp .ne 12, 3) := by decide +kernel
theorem dX11_singerOf_22 : decode cX11_singerOf 22 = .ok (.aload_n 0, 1) := by decide +kernel
theorem dX11_singerOf_23 : decode cX11_singerOf 23 = .ok (.getfield 23, 3) := by decide +kernel
theorem dX11_singerOf_26 : decode cX11_singerOf 26 = .ok (.iload_n 3, 1) := by decide +kernel
theorem dX11_singerOf_27 : decode cX11_singerOf 27 = .ok (.iaload, 1) := by decide +kernel
theorem dX11_singerOf_28 : decode cX11_singerOf 28 = .ok (.goto 4, 3) := by decide +kernel
theorem dX11_singerOf_31 : decode cX11_singerOf 31 = .ok (.iload_n 2, 1) := by decide +kernel
theorem dX11_singerOf_32 : decode cX11_singerOf 32 = .ok (.istore_n 2, 1) := by decide +kernel
theorem dX11_singerOf_33 : decode cX11_singerOf 33 = .ok (.iinc 3 1, 3) := by decide +kernel
theorem dX11_singerOf_36 : decode cX11_singerOf 36 = .ok (.goto (-32), 3) := by decide +kernel
theorem dX11_singerOf_39 : decode cX11_singerOf 39 = .ok (.iload_n 2, 1) := by decide +kernel
theorem dX11_singerOf_40 : decode cX11_singerOf 40 = .ok (.ireturn, 1) := by decide +kernel
theorem dX11_rota_0 : decode cX11_rota 0 = .ok (.aload_n 0, 1) := by decide +kernel
theorem dX11_rota_1 : decode cX11_rota 1 = .ok (.iload_n 1, 1) := by decide +kernel
theorem dX11_rota_2 : decode cX11_rota 2 = .ok (.invokevirtual 197, 3) := by decide +kernel
theorem dX11_rota_5 : decode cX11_rota 5 = .ok (.ifCond .eq 27, 3) := by decide +kernel
theorem dX11_rota_8 : decode cX11_rota 8 = .ok (.aload_n 0, 1) := by decide +kernel
theorem dX11_rota_9 : decode cX11_rota 9 = .ok (.iload_n 2, 1) := by decide +kernel
theorem dX11_rota_10 : decode cX11_rota 10 = .ok (.invokevirtual 209, 3) := by decide +kernel
theorem dX11_rota_13 : decode cX11_rota 13 = .ok (.ifCond .eq 19, 3) := by decide +kernel
theorem dX11_rota_16 : decode cX11_rota 16 = .ok (.aload_n 0, 1) := by decide +kernel
theorem dX11_rota_17 : decode cX11_rota 17 = .ok (.aload_n 0, 1) := by decide +kernel
theorem dX11_rota_18 : decode cX11_rota 18 = .ok (.getfield 188, 3) := by decide +kernel
theorem dX11_rota_21 : decode cX11_rota 21 = .ok (.aload_n 0, 1) := by decide +kernel
theorem dX11_rota_22 : decode cX11_rota 22 = .ok (.invokevirtual 245, 3) := by decide +kernel
theorem dX11_rota_25 : decode cX11_rota 25 = .ok (.iconst 0, 1) := by decide +kernel
theorem dX11_rota_26 : decode cX11_rota 26 = .ok (.invokevirtual 249, 3) := by decide +kernel
theorem dX11_rota_29 : decode cX11_rota 29 = .ok (.ifCond .ne 5, 3) := by decide +kernel
theorem dX11_rota_32 : decode cX11_rota 32 = .ok (.iconst (-1), 1) := by decide +kernel
theorem dX11_rota_33 : decode cX11_rota 33 = .ok (.ireturn, 1) := by decide +kernel
theorem dX11_rota_34 : decode cX11_rota 34 = .ok (.aload_n 0, 1) := by decide +kernel
theorem dX11_rota_35 : decode cX11_rota 35 = .ok (.iload_n 2, 1) := by decide +kernel
theorem dX11_rota_36 : decode cX11_rota 36 = .ok (.invokevirtual 252, 3) := by decide +kernel
theorem dX11_rota_39 : decode cX11_rota 39 = .ok (.ireturn, 1) := by decide +kernel
theorem dX11_bitsOf_0 : decode cX11_bitsOf 0 = .ok (.iconst 0, 1) := by decide +kernel
theorem dX11_bitsOf_1 : decode cX11_bitsOf 1 = .ok (.istore_n 1, 1) := by decide +kernel
theorem dX11_bitsOf_2 : decode cX11_bitsOf 2 = .ok (.iconst 0, 1) := by decide +kernel
theorem dX11_bitsOf_3 : decode cX11_bitsOf 3 = .ok (.istore_n 2, 1) := by decide +kernel
theorem dX11_bitsOf_4 : decode cX11_bitsOf 4 = .ok (.iload_n 2, 1) := by decide +kernel
theorem dX11_bitsOf_5 : decode cX11_bitsOf 5 = .ok (.bipush 10, 2) := by decide +kernel
theorem dX11_bitsOf_7 : decode cX11_bitsOf 7 = .ok (.if_icmp .ge 17, 3) := by decide +kernel
theorem dX11_bitsOf_10 : decode cX11_bitsOf 10 = .ok (.iload_n 1, 1) := by decide +kernel
theorem dX11_bitsOf_11 : decode cX11_bitsOf 11 = .ok (.iload_n 0, 1) := by decide +kernel
theorem dX11_bitsOf_12 : decode cX11_bitsOf 12 = .ok (.iload_n 2, 1) := by decide +kernel
theorem dX11_bitsOf_13 : decode cX11_bitsOf 13 = .ok (.ishr, 1) := by decide +kernel
theorem dX11_bitsOf_14 : decode cX11_bitsOf 14 = .ok (.iconst 1, 1) := by decide +kernel
theorem dX11_bitsOf_15 : decode cX11_bitsOf 15 = .ok (.iand, 1) := by decide +kernel
theorem dX11_bitsOf_16 : decode cX11_bitsOf 16 = .ok (.iadd, 1) := by decide +kernel
theorem dX11_bitsOf_17 : decode cX11_bitsOf 17 = .ok (.istore_n 1, 1) := by decide +kernel
theorem dX11_bitsOf_18 : decode cX11_bitsOf 18 = .ok (.iinc 2 1, 3) := by decide +kernel
theorem dX11_bitsOf_21 : decode cX11_bitsOf 21 = .ok (.goto (-17), 3) := by decide +kernel
theorem dX11_bitsOf_24 : decode cX11_bitsOf 24 = .ok (.iload_n 1, 1) := by decide +kernel
theorem dX11_bitsOf_25 : decode cX11_bitsOf 25 = .ok (.ireturn, 1) := by decide +kernel
theorem dX11_few_0 : decode cX11_few 0 = .ok (.aload_n 0, 1) := by decide +kernel
theorem dX11_few_1 : decode cX11_few 1 = .ok (.iload_n 1, 1) := by decide +kernel
theorem dX11_few_2 : decode cX11_few 2 = .ok (.invokevirtual 197, 3) := by decide +kernel
theorem dX11_few_5 : decode cX11_few 5 = .ok (.ifCond .ne 5, 3) := by decide +kernel
theorem dX11_few_8 : decode cX11_few 8 = .ok (.iconst (-1), 1) := by decide +kernel
theorem dX11_few_9 : decode cX11_few 9 = .ok (.ireturn, 1) := by decide +kernel
theorem dX11_few_10 : decode cX11_few 10 = .ok (.iconst (-1), 1) := by decide +kernel
theorem dX11_few_11 : decode cX11_few 11 = .ok (.istore_n 3, 1) := by decide +kernel
theorem dX11_few_12 : decode cX11_few 12 = .ok (.iconst 0, 1) := by decide +kernel
theorem dX11_few_13 : decode cX11_few 13 = .ok (.istore 4, 2) := by decide +kernel
theorem dX11_few_15 : decode cX11_few 15 = .ok (.iload 4, 2) := by decide +kernel
theorem dX11_few_17 : decode cX11_few 17 = .ok (.aload_n 0, 1) := by decide +kernel
theorem dX11_few_18 : decode cX11_few 18 = .ok (.invokevirtual 245, 3) := by decide +kernel
theorem dX11_few_21 : decode cX11_few 21 = .ok (.if_icmp .gt 43, 3) := by decide +kernel
theorem dX11_few_24 : decode cX11_few 24 = .ok (.iload_n 3, 1) := by decide +kernel
theorem dX11_few_25 : decode cX11_few 25 = .ok (.iconst (-1), 1) := by decide +kernel
theorem dX11_few_26 : decode cX11_few 26 = .ok (.if_icmp .eq 15, 3) := by decide +kernel
theorem dX11_few_29 : decode cX11_few 29 = .ok (.iload 4, 2) := by decide +kernel
theorem dX11_few_31 : decode cX11_few 31 = .ok (.invokestatic 255, 3) := by decide +kernel
theorem dX11_few_34 : decode cX11_few 34 = .ok (.iload_n 3, 1) := by decide +kernel
theorem dX11_few_35 : decode cX11_few 35 = .ok (.invokestatic 255, 3) := by decide +kernel
theorem dX11_few_38 : decode cX11_few 38 = .ok (.if_icmp .ge 20, 3) := by decide +kernel
theorem dX11_few_41 : decode cX11_few 41 = .ok (.aload_n 0, 1) := by decide +kernel
theorem dX11_few_42 : decode cX11_few 42 = .ok (.aload_n 0, 1) := by decide +kernel
theorem dX11_few_43 : decode cX11_few 43 = .ok (.getfield 188, 3) := by decide +kernel
theorem dX11_few_46 : decode cX11_few 46 = .ok (.iload 4, 2) := by decide +kernel
theorem dX11_few_48 : decode cX11_few 48 = .ok (.iconst 0, 1) := by decide +kernel
theorem dX11_few_49 : decode cX11_few 49 = .ok (.invokevirtual 249, 3) := by decide +kernel
theorem dX11_few_52 : decode cX11_few 52 = .ok (.ifCond .eq 6, 3) := by decide +kernel
theorem dX11_few_55 : decode cX11_few 55 = .ok (.iload 4, 2) := by decide +kernel
theorem dX11_few_57 : decode cX11_few 57 = .ok (.istore_n 3, 1) := by decide +kernel
theorem dX11_few_58 : decode cX11_few 58 = .ok (.iinc 4 1, 3) := by decide +kernel
theorem dX11_few_61 : decode cX11_few 61 = .ok (.goto (-46), 3) := by decide +kernel
theorem dX11_few_64 : decode cX11_few 64 = .ok (.iload_n 3, 1) := by decide +kernel
theorem dX11_few_65 : decode cX11_few 65 = .ok (.iconst (-1), 1) := by decide +kernel
theorem dX11_few_66 : decode cX11_few 66 = .ok (.if_icmp .eq 7, 3) := by decide +kernel
theorem dX11_few_69 : decode cX11_few 69 = .ok (.iload_n 2, 1) := by decide +kernel
theorem dX11_few_70 : decode cX11_few 70 = .ok (.ifCond .eq 7, 3) := by decide +kernel
theorem dX11_few_73 : decode cX11_few 73 = .ok (.iload_n 3, 1) := by decide +kernel
theorem dX11_few_74 : decode cX11_few 74 = .ok (.goto 7, 3) := by decide +kernel
theorem dX11_few_77 : decode cX11_few 77 = .ok (.iload_n 3, 1) := by decide +kernel
theorem dX11_few_78 : decode cX11_few 78 = .ok (.invokestatic 255, 3) := by decide +kernel
theorem dX11_few_81 : decode cX11_few 81 = .ok (.ireturn, 1) := by decide +kernel
theorem dX11_farBy_0 : decode cX11_farBy 0 = .ok (.aload_n 0, 1) := by decide +kernel
theorem dX11_farBy_1 : decode cX11_farBy 1 = .ok (.getfield 188, 3) := by decide +kernel
theorem dX11_farBy_4 : decode cX11_farBy 4 = .ok (.istore_n 2, 1) := by decide +kernel
theorem dX11_farBy_5 : decode cX11_farBy 5 = .ok (.aload_n 0, 1) := by decide +kernel
theorem dX11_farBy_6 : decode cX11_farBy 6 = .ok (.iload_n 2, 1) := by decide +kernel
theorem dX11_farBy_7 : decode cX11_farBy 7 = .ok (.aload_n 0, 1) := by decide +kernel
theorem dX11_farBy_8 : decode cX11_farBy 8 = .ok (.invokevirtual 245, 3) := by decide +kernel
theorem dX11_farBy_11 : decode cX11_farBy 11 = .ok (.iload_n 1, 1) := by decide +kernel
theorem dX11_farBy_12 : decode cX11_farBy 12 = .ok (.invokevirtual 249, 3) := by decide +kernel
theorem dX11_farBy_15 : decode cX11_farBy 15 = .ok (.ifCond .ne 9, 3) := by decide +kernel
theorem dX11_farBy_18 : decode cX11_farBy 18 = .ok (.iinc 2 (-1), 3) := by decide +kernel
theorem dX11_farBy_21 : decode cX11_farBy 21 = .ok (.goto (-16), 3) := by decide +kernel
theorem dX11_farBy_24 : decode cX11_farBy 24 = .ok (.iload_n 2, 1) := by decide +kernel
theorem dX11_farBy_25 : decode cX11_farBy 25 = .ok (.ireturn, 1) := by decide +kernel
theorem dX11_isReached_0 : decode cX11_isReached 0 = .ok (.iconst 0, 1) := by decide +kernel
theorem dX11_isReached_1 : decode cX11_isReached 1 = .ok (.istore_n 2, 1) := by decide +kernel
theorem dX11_isReached_2 : decode cX11_isReached 2 = .ok (.iconst 0, 1) := by decide +kernel
theorem dX11_isReached_3 : decode cX11_isReached 3 = .ok (.istore_n 3, 1) := by decide +kernel
theorem dX11_isReached_4 : decode cX11_isReached 4 = .ok (.iload_n 3, 1) := by decide +kernel
theorem dX11_isReached_5 : decode cX11_isReached 5 = .ok (.aload_n 0, 1) := by decide +kernel
theorem dX11_isReached_6 : decode cX11_isReached 6 = .ok (.getfield 191, 3) := by decide +kernel
theorem dX11_isReached_9 : decode cX11_isReached 9 = .ok (.if_icmp .ge 29, 3) := by decide +kernel
theorem dX11_isReached_12 : decode cX11_isReached 12 = .ok (.iload_n 2, 1) := by decide +kernel
theorem dX11_isReached_13 : decode cX11_isReached 13 = .ok (.ifCond .ne 13, 3) := by decide +kernel
theorem dX11_isReached_16 : decode cX11_isReached 16 = .ok (.aload_n 0, 1) := by decide +kernel
theorem dX11_isReached_17 : decode cX11_isReached 17 = .ok (.iload_n 3, 1) := by decide +kernel
theorem dX11_isReached_18 : decode cX11_isReached 18 = .ok (.iload_n 1, 1) := by decide +kernel
theorem dX11_isReached_19 : decode cX11_isReached 19 = .ok (.iconst 0, 1) := by decide +kernel
theorem dX11_isReached_20 : decode cX11_isReached 20 = .ok (.invokevirtual 228, 3) := by decide +kernel
theorem dX11_isReached_23 : decode cX11_isReached 23 = .ok (.ifCond .eq 7, 3) := by decide +kernel
theorem dX11_isReached_26 : decode cX11_isReached 26 = .ok (.iconst 1, 1) := by decide +kernel
theorem dX11_isReached_27 : decode cX11_isReached 27 = .ok (.goto 4, 3) := by decide +kernel
theorem dX11_isReached_30 : decode cX11_isReached 30 = .ok (.iconst 0, 1) := by decide +kernel
theorem dX11_isReached_31 : decode cX11_isReached 31 = .ok (.istore_n 2, 1) := by decide +kernel
theorem dX11_isReached_32 : decode cX11_isReached 32 = .ok (.iinc 3 1, 3) := by decide +kernel
theorem dX11_isReached_35 : decode cX11_isReached 35 = .ok (.goto (-31), 3) := by decide +kernel
theorem dX11_isReached_38 : decode cX11_isReached 38 = .ok (.iload_n 2, 1) := by decide +kernel
theorem dX11_isReached_39 : decode cX11_isReached 39 = .ok (.ireturn, 1) := by decide +kernel
theorem dX11_far_0 : decode cX11_far 0 = .ok (.aload_n 0, 1) := by decide +kernel
theorem dX11_far_1 : decode cX11_far 1 = .ok (.iload_n 1, 1) := by decide +kernel
theorem dX11_far_2 : decode cX11_far 2 = .ok (.invokevirtual 197, 3) := by decide +kernel
theorem dX11_far_5 : decode cX11_far 5 = .ok (.ifCond .ne 5, 3) := by decide +kernel
theorem dX11_far_8 : decode cX11_far 8 = .ok (.iconst (-1), 1) := by decide +kernel
theorem dX11_far_9 : decode cX11_far 9 = .ok (.ireturn, 1) := by decide +kernel
theorem dX11_far_10 : decode cX11_far 10 = .ok (.iload_n 2, 1) := by decide +kernel
theorem dX11_far_11 : decode cX11_far 11 = .ok (.ifCond .ne 9, 3) := by decide +kernel
theorem dX11_far_14 : decode cX11_far 14 = .ok (.aload_n 0, 1) := by decide +kernel
theorem dX11_far_15 : decode cX11_far 15 = .ok (.iconst 0, 1) := by decide +kernel
theorem dX11_far_16 : decode cX11_far 16 = .ok (.invokevirtual 258, 3) := by decide +kernel
theorem dX11_far_19 : decode cX11_far 19 = .ok (.ireturn, 1) := by decide +kernel
theorem dX11_far_20 : decode cX11_far 20 = .ok (.iconst 0, 1) := by decide +kernel
theorem dX11_far_21 : decode cX11_far 21 = .ok (.istore_n 3, 1) := by decide +kernel
theorem dX11_far_22 : decode cX11_far 22 = .ok (.iconst 0, 1) := by decide +kernel
theorem dX11_far_23 : decode cX11_far 23 = .ok (.istore 4, 2) := by decide +kernel
theorem dX11_far_25 : decode cX11_far 25 = .ok (.iload 4, 2) := by decide +kernel
theorem dX11_far_27 : decode cX11_far 27 = .ok (.aload_n 0, 1) := by decide +kernel
theorem dX11_far_28 : decode cX11_far 28 = .ok (.getfield 188, 3) := by decide +kernel
theorem dX11_far_31 : decode cX11_far 31 = .ok (.if_icmp .ge 42, 3) := by decide +kernel
theorem dX11_far_34 : decode cX11_far 34 = .ok (.iload_n 3, 1) := by decide +kernel
theorem dX11_far_35 : decode cX11_far 35 = .ok (.aload_n 0, 1) := by decide +kernel
theorem dX11_far_36 : decode cX11_far 36 = .ok (.iload 4, 2) := by decide +kernel
theorem dX11_far_38 : decode cX11_far 38 = .ok (.invokevirtual 194, 3) := by decide +kernel
theorem dX11_far_41 : decode cX11_far 41 = .ok (.ifCond .le 23, 3) := by decide +kernel
theorem dX11_far_44 : decode cX11_far 44 = .ok (.aload_n 0, 1) := by decide +kernel
theorem dX11_far_45 : decode cX11_far 45 = .ok (.aload_n 0, 1) := by decide +kernel
theorem dX11_far_46 : decode cX11_far 46 = .ok (.iload 4, 2) := by decide +kernel
theorem dX11_far_48 : decode cX11_far 48 = .ok (.invokevirtual 194, 3) := by decide +kernel
theorem dX11_far_51 : decode cX11_far 51 = .ok (.invokevirtual 261, 3) := by decide +kernel
theorem dX11_far_54 : decode cX11_far 54 = .ok (.ifCond .ne 10, 3) := by decide +kernel
theorem dX11_far_57 : decode cX11_far 57 = .ok (.iconst 1, 1) := by decide +kernel
theorem dX11_far_58 : decode cX11_far 58 = .ok (.iload 4, 2) := by decide +kernel
theorem dX11_far_60 : decode cX11_far 60 = .ok (.ishl, 1) := by decide +kernel
theorem dX11_far_61 : decode cX11_far 61 = .ok (.goto 4, 3) := by decide +kernel
theorem dX11_far_64 : decode cX11_far 64 = .ok (.iconst 0, 1) := by decide +kernel
theorem dX11_far_65 : decode cX11_far 65 = .ok (.ior, 1) := by decide +kernel
theorem dX11_far_66 : decode cX11_far 66 = .ok (.istore_n 3, 1) := by decide +kernel
theorem dX11_far_67 : decode cX11_far 67 = .ok (.iinc 4 1, 3) := by decide +kernel
theorem dX11_far_70 : decode cX11_far 70 = .ok (.goto (-45), 3) := by decide +kernel
theorem dX11_far_73 : decode cX11_far 73 = .ok (.iload_n 3, 1) := by decide +kernel
theorem dX11_far_74 : decode cX11_far 74 = .ok (.ireturn, 1) := by decide +kernel
theorem dX11_sung_0 : decode cX11_sung 0 = .ok (.aload_n 0, 1) := by decide +kernel
theorem dX11_sung_1 : decode cX11_sung 1 = .ok (.iload_n 1, 1) := by decide +kernel
theorem dX11_sung_2 : decode cX11_sung 2 = .ok (.invokevirtual 197, 3) := by decide +kernel
theorem dX11_sung_5 : decode cX11_sung 5 = .ok (.ifCond .eq 27, 3) := by decide +kernel
theorem dX11_sung_8 : decode cX11_sung 8 = .ok (.aload_n 0, 1) := by decide +kernel
theorem dX11_sung_9 : decode cX11_sung 9 = .ok (.iload_n 2, 1) := by decide +kernel
theorem dX11_sung_10 : decode cX11_sung 10 = .ok (.invokevirtual 212, 3) := by decide +kernel
theorem dX11_sung_13 : decode cX11_sung 13 = .ok (.ifCond .eq 19, 3) := by decide +kernel
theorem dX11_sung_16 : decode cX11_sung 16 = .ok (.aload_n 0, 1) := by decide +kernel
theorem dX11_sung_17 : decode cX11_sung 17 = .ok (.aload_n 0, 1) := by decide +kernel
theorem dX11_sung_18 : decode cX11_sung 18 = .ok (.getfield 188, 3) := by decide +kernel
theorem dX11_sung_21 : decode cX11_sung 21 = .ok (.aload_n 0, 1) := by decide +kernel
theorem dX11_sung_22 : decode cX11_sung 22 = .ok (.invokevirtual 245, 3) := by decide +kernel
theorem dX11_sung_25 : decode cX11_sung 25 = .ok (.iconst 0, 1) := by decide +kernel
theorem dX11_sung_26 : decode cX11_sung 26 = .ok (.invokevirtual 249, 3) := by decide +kernel
theorem dX11_sung_29 : decode cX11_sung 29 = .ok (.ifCond .ne 5, 3) := by decide +kernel
theorem dX11_sung_32 : decode cX11_sung 32 = .ok (.iconst (-1), 1) := by decide +kernel
theorem dX11_sung_33 : decode cX11_sung 33 = .ok (.ireturn, 1) := by decide +kernel
theorem dX11_sung_34 : decode cX11_sung 34 = .ok (.iconst 0, 1) := by decide +kernel
theorem dX11_sung_35 : decode cX11_sung 35 = .ok (.istore 4, 2) := by decide +kernel
theorem dX11_sung_37 : decode cX11_sung 37 = .ok (.iconst 0, 1) := by decide +kernel
theorem dX11_sung_38 : decode cX11_sung 38 = .ok (.istore 5, 2) := by decide +kernel
theorem dX11_sung_40 : decode cX11_sung 40 = .ok (.iload 5, 2) := by decide +kernel
theorem dX11_sung_42 : decode cX11_sung 42 = .ok (.aload_n 0, 1) := by decide +kernel
theorem dX11_sung_43 : decode cX11_sung 43 = .ok (.getfield 215, 3) := by decide +kernel
theorem dX11_sung_46 : decode cX11_sung 46 = .ok (.if_icmp .ge 30, 3) := by decide +kernel
theorem dX11_sung_49 : decode cX11_sung 49 = .ok (.iload 4, 2) := by decide +kernel
theorem dX11_sung_51 : decode cX11_sung 51 = .ok (.aload_n 0, 1) := by decide +kernel
theorem dX11_sung_52 : decode cX11_sung 52 = .ok (.getfield 23, 3) := by decide +kernel
theorem dX11_sung_55 : decode cX11_sung 55 = .ok (.iload 5, 2) := by decide +kernel
theorem dX11_sung_57 : decode cX11_sung 57 = .ok (.iaload, 1) := by decide +kernel
theorem dX11_sung_58 : decode cX11_sung 58 = .ok (.iload_n 2, 1) := by decide +kernel
theorem dX11_sung_59 : decode cX11_sung 59 = .ok (.if_icmp .ne 7, 3) := by decide +kernel
theorem dX11_sung_62 : decode cX11_sung 62 = .ok (.iconst 1, 1) := by decide +kernel
theorem dX11_sung_63 : decode cX11_sung 63 = .ok (.goto 4, 3) := by decide +kernel
theorem dX11_sung_66 : decode cX11_sung 66 = .ok (.iconst 0, 1) := by decide +kernel
theorem dX11_sung_67 : decode cX11_sung 67 = .ok (.iadd, 1) := by decide +kernel
theorem dX11_sung_68 : decode cX11_sung 68 = .ok (.istore 4, 2) := by decide +kernel
theorem dX11_sung_70 : decode cX11_sung 70 = .ok (.iinc 5 1, 3) := by decide +kernel
theorem dX11_sung_73 : decode cX11_sung 73 = .ok (.goto (-33), 3) := by decide +kernel
theorem dX11_sung_76 : decode cX11_sung 76 = .ok (.iload_n 3, 1) := by decide +kernel
theorem dX11_sung_77 : decode cX11_sung 77 = .ok (.ifCond .eq 18, 3) := by decide +kernel
theorem dX11_sung_80 : decode cX11_sung 80 = .ok (.aload_n 0, 1) := by decide +kernel
theorem dX11_sung_81 : decode cX11_sung 81 = .ok (.iload_n 2, 1) := by decide +kernel
theorem dX11_sung_82 : decode cX11_sung 82 = .ok (.invokevirtual 218, 3) := by decide +kernel
theorem dX11_sung_85 : decode cX11_sung 85 = .ok (.aload_n 0, 1) := by decide +kernel
theorem dX11_sung_86 : decode cX11_sung 86 = .ok (.getfield 26, 3) := by decide +kernel
theorem dX11_sung_89 : decode cX11_sung 89 = .ok (.iload_n 2, 1) := by decide +kernel
theorem dX11_sung_90 : decode cX11_sung 90 = .ok (.iaload, 1) := by decide +kernel
theorem dX11_sung_91 : decode cX11_sung 91 = .ok (.isub, 1) := by decide +kernel
theorem dX11_sung_92 : decode cX11_sung 92 = .ok (.goto 5, 3) := by decide +kernel
theorem dX11_sung_95 : decode cX11_sung 95 = .ok (.iload 4, 2) := by decide +kernel
theorem dX11_sung_97 : decode cX11_sung 97 = .ok (.ireturn, 1) := by decide +kernel
theorem dX11_spareOf_0 : decode cX11_spareOf 0 = .ok (.iconst 0, 1) := by decide +kernel
theorem dX11_spareOf_1 : decode cX11_spareOf 1 = .ok (.istore_n 1, 1) := by decide +kernel
theorem dX11_spareOf_2 : decode cX11_spareOf 2 = .ok (.iconst 0, 1) := by decide +kernel
theorem dX11_spareOf_3 : decode cX11_spareOf 3 = .ok (.istore_n 2, 1) := by decide +kernel
theorem dX11_spareOf_4 : decode cX11_spareOf 4 = .ok (.iload_n 2, 1) := by decide +kernel
theorem dX11_spareOf_5 : decode cX11_spareOf 5 = .ok (.aload_n 0, 1) := by decide +kernel
theorem dX11_spareOf_6 : decode cX11_spareOf 6 = .ok (.getfield 191, 3) := by decide +kernel
theorem dX11_spareOf_9 : decode cX11_spareOf 9 = .ok (.if_icmp .ge 41, 3) := by decide +kernel
theorem dX11_spareOf_12 : decode cX11_spareOf 12 = .ok (.iload_n 1, 1) := by decide +kernel
theorem dX11_spareOf_13 : decode cX11_spareOf 13 = .ok (.aload_n 0, 1) := by decide +kernel
theorem dX11_spareOf_14 : decode cX11_spareOf 14 = .ok (.aload_n 0, 1) := by decide +kernel
theorem dX11_spareOf_15 : decode cX11_spareOf 15 = .ok (.getfield 188, 3) := by decide +kernel
theorem dX11_spareOf_18 : decode cX11_spareOf 18 = .ok (.aload_n 0, 1) := by decide +kernel
theorem dX11_spareOf_19 : decode cX11_spareOf 19 = .ok (.invokevirtual 245, 3) := by decide +kernel
theorem dX11_spareOf_22 : decode cX11_spareOf 22 = .ok (.iconst 1, 1) := by decide +kernel
theorem dX11_spareOf_23 : decode cX11_spareOf 23 = .ok (.iload_n 2, 1) := by decide +kernel
theorem dX11_spareOf_24 : decode cX11_spareOf 24 = .ok (.ishl, 1) := by decide +kernel
theorem dX11_spareOf_25 : decode cX11_spareOf 25 = .ok (.iconst (-1), 1) := by decide +kernel
theorem dX11_spareOf_26 : decode cX11_spareOf 26 = .ok (.ixor, 1) := by decide +kernel
theorem dX11_spareOf_27 : decode cX11_spareOf 27 = .ok (.iand, 1) := by decide +kernel
theorem dX11_spareOf_28 : decode cX11_spareOf 28 = .ok (.iconst 0, 1) := by decide +kernel
theorem dX11_spareOf_29 : decode cX11_spareOf 29 = .ok (.invokevirtual 249, 3) := by decide +kernel
theorem dX11_spareOf_32 : decode cX11_spareOf 32 = .ok (.ifCond .eq 9, 3) := by decide +kernel
theorem dX11_spareOf_35 : decode cX11_spareOf 35 = .ok (.iconst 1, 1) := by decide +kernel
theorem dX11_spareOf_36 : decode cX11_spareOf 36 = .ok (.iload_n 2, 1) := by decide +kernel
theorem dX11_spareOf_37 : decode cX11_spareOf 37 = .ok (.ishl, 1) := by decide +kernel
theorem dX11_spareOf_38 : decode cX11_spareOf 38 = .ok (.goto 4, 3) := by decide +kernel
theorem dX11_spareOf_41 : decode cX11_spareOf 41 = .ok (.iconst 0, 1) := by decide +kernel
theorem dX11_spareOf_42 : decode cX11_spareOf 42 = .ok (.ior, 1) := by decide +kernel
theorem dX11_spareOf_43 : decode cX11_spareOf 43 = .ok (.istore_n 1, 1) := by decide +kernel
theorem dX11_spareOf_44 : decode cX11_spareOf 44 = .ok (.iinc 2 1, 3) := by decide +kernel
theorem dX11_spareOf_47 : decode cX11_spareOf 47 = .ok (.goto (-43), 3) := by decide +kernel
theorem dX11_spareOf_50 : decode cX11_spareOf 50 = .ok (.aload_n 0, 1) := by decide +kernel
theorem dX11_spareOf_51 : decode cX11_spareOf 51 = .ok (.aload_n 0, 1) := by decide +kernel
theorem dX11_spareOf_52 : decode cX11_spareOf 52 = .ok (.getfield 188, 3) := by decide +kernel
theorem dX11_spareOf_55 : decode cX11_spareOf 55 = .ok (.aload_n 0, 1) := by decide +kernel
theorem dX11_spareOf_56 : decode cX11_spareOf 56 = .ok (.invokevirtual 245, 3) := by decide +kernel
theorem dX11_spareOf_59 : decode cX11_spareOf 59 = .ok (.iconst 0, 1) := by decide +kernel
theorem dX11_spareOf_60 : decode cX11_spareOf 60 = .ok (.invokevirtual 249, 3) := by decide +kernel
theorem dX11_spareOf_63 : decode cX11_spareOf 63 = .ok (.ifCond .eq 7, 3) := by decide +kernel
theorem dX11_spareOf_66 : decode cX11_spareOf 66 = .ok (.iload_n 1, 1) := by decide +kernel
theorem dX11_spareOf_67 : decode cX11_spareOf 67 = .ok (.goto 4, 3) := by decide +kernel
theorem dX11_spareOf_70 : decode cX11_spareOf 70 = .ok (.iconst 0, 1) := by decide +kernel
theorem dX11_spareOf_71 : decode cX11_spareOf 71 = .ok (.ireturn, 1) := by decide +kernel
theorem dX11_rotasOf_0 : decode cX11_rotasOf 0 = .ok (.iconst 0, 1) := by decide +kernel
theorem dX11_rotasOf_1 : decode cX11_rotasOf 1 = .ok (.istore_n 1, 1) := by decide +kernel
theorem dX11_rotasOf_2 : decode cX11_rotasOf 2 = .ok (.aload_n 0, 1) := by decide +kernel
theorem dX11_rotasOf_3 : decode cX11_rotasOf 3 = .ok (.aload_n 0, 1) := by decide +kernel
theorem dX11_rotasOf_4 : decode cX11_rotasOf 4 = .ok (.getfield 188, 3) := by decide +kernel
theorem dX11_rotasOf_7 : decode cX11_rotasOf 7 = .ok (.aload_n 0, 1) := by decide +kernel
theorem dX11_rotasOf_8 : decode cX11_rotasOf 8 = .ok (.invokevirtual 245, 3) := by decide +kernel
theorem dX11_rotasOf_11 : decode cX11_rotasOf 11 = .ok (.iconst 0, 1) := by decide +kernel
theorem dX11_rotasOf_12 : decode cX11_rotasOf 12 = .ok (.invokevirtual 237, 3) := by decide +kernel
theorem dX11_rotasOf_15 : decode cX11_rotasOf 15 = .ok (.iload_n 1, 1) := by decide +kernel
theorem dX11_rotasOf_16 : decode cX11_rotasOf 16 = .ok (.ldc_w 264, 3) := by decide +kernel
theorem dX11_rotasOf_19 : decode cX11_rotasOf 19 = .ok (.if_icmp .ge 16, 3) := by decide +kernel
theorem dX11_rotasOf_22 : decode cX11_rotasOf 22 = .ok (.aload_n 0, 1) := by decide +kernel
theorem dX11_rotasOf_23 : decode cX11_rotasOf 23 = .ok (.invokevirtual 241, 3) := by decide +kernel
theorem dX11_rotasOf_26 : decode cX11_rotasOf 26 = .ok (.ifCond .eq 9, 3) := by decide +kernel
theorem dX11_rotasOf_29 : decode cX11_rotasOf 29 = .ok (.iinc 1 1, 3) := by decide +kernel
theorem dX11_rotasOf_32 : decode cX11_rotasOf 32 = .ok (.goto (-17), 3) := by decide +kernel
theorem dX11_rotasOf_35 : decode cX11_rotasOf 35 = .ok (.iload_n 1, 1) := by decide +kernel
theorem dX11_rotasOf_36 : decode cX11_rotasOf 36 = .ok (.ireturn, 1) := by decide +kernel
theorem dX11_cureOf_0 : decode cX11_cureOf 0 = .ok (.iconst 0, 1) := by decide +kernel
theorem dX11_cureOf_1 : decode cX11_cureOf 1 = .ok (.istore_n 1, 1) := by decide +kernel
theorem dX11_cureOf_2 : decode cX11_cureOf 2 = .ok (.iload_n 1, 1) := by decide +kernel
theorem dX11_cureOf_3 : decode cX11_cureOf 3 = .ok (.bipush 21, 2) := by decide +kernel
theorem dX11_cureOf_5 : decode cX11_cureOf 5 = .ok (.if_icmp .ge 25, 3) := by decide +kernel
theorem dX11_cureOf_8 : decode cX11_cureOf 8 = .ok (.aload_n 0, 1) := by decide +kernel
theorem dX11_cureOf_9 : decode cX11_cureOf 9 = .ok (.aload_n 0, 1) := by decide +kernel
theorem dX11_cureOf_10 : decode cX11_cureOf 10 = .ok (.getfield 188, 3) := by decide +kernel
theorem dX11_cureOf_13 : decode cX11_cureOf 13 = .ok (.aload_n 0, 1) := by decide +kernel
theorem dX11_cureOf_14 : decode cX11_cureOf 14 = .ok (.invokevirtual 245, 3) := by decide +kernel
theorem dX11_cureOf_17 : decode cX11_cureOf 17 = .ok (.iload_n 1, 1) := by decide +kernel
theorem dX11_cureOf_18 : decode cX11_cureOf 18 = .ok (.invokevirtual 249, 3) := by decide +kernel
theorem dX11_cureOf_21 : decode cX11_cureOf 21 = .ok (.ifCond .ne 9, 3) := by decide +kernel
theorem dX11_cureOf_24 : decode cX11_cureOf 24 = .ok (.iinc 1 1, 3) := by decide +kernel
theorem dX11_cureOf_27 : decode cX11_cureOf 27 = .ok (.goto (-25), 3) := by decide +kernel
theorem dX11_cureOf_30 : decode cX11_cureOf 30 = .ok (.iload_n 1, 1) := by decide +kernel
theorem dX11_cureOf_31 : decode cX11_cureOf 31 = .ok (.bipush 21, 2) := by decide +kernel
theorem dX11_cureOf_33 : decode cX11_cureOf 33 = .ok (.if_icmp .ge 7, 3) := by decide +kernel
theorem dX11_cureOf_36 : decode cX11_cureOf 36 = .ok (.iload_n 1, 1) := by decide +kernel
theorem dX11_cureOf_37 : decode cX11_cureOf 37 = .ok (.goto 4, 3) := by decide +kernel
theorem dX11_cureOf_40 : decode cX11_cureOf 40 = .ok (.iconst (-1), 1) := by decide +kernel
theorem dX11_cureOf_41 : decode cX11_cureOf 41 = .ok (.ireturn, 1) := by decide +kernel
theorem dX11_dreamsBy_0 : decode cX11_dreamsBy 0 = .ok (.aload_n 0, 1) := by decide +kernel
theorem dX11_dreamsBy_1 : decode cX11_dreamsBy 1 = .ok (.aload_n 0, 1) := by decide +kernel
theorem dX11_dreamsBy_2 : decode cX11_dreamsBy 2 = .ok (.getfield 188, 3) := by decide +kernel
theorem dX11_dreamsBy_5 : decode cX11_dreamsBy 5 = .ok (.aload_n 0, 1) := by decide +kernel
theorem dX11_dreamsBy_6 : decode cX11_dreamsBy 6 = .ok (.invokevirtual 245, 3) := by decide +kernel
theorem dX11_dreamsBy_9 : decode cX11_dreamsBy 9 = .ok (.iconst 0, 1) := by decide +kernel
theorem dX11_dreamsBy_10 : decode cX11_dreamsBy 10 = .ok (.invokevirtual 249, 3) := by decide +kernel
theorem dX11_dreamsBy_13 : decode cX11_dreamsBy 13 = .ok (.ifCond .ne 5, 3) := by decide +kernel
theorem dX11_dreamsBy_16 : decode cX11_dreamsBy 16 = .ok (.iconst (-1), 1) := by decide +kernel
theorem dX11_dreamsBy_17 : decode cX11_dreamsBy 17 = .ok (.ireturn, 1) := by decide +kernel
theorem dX11_dreamsBy_18 : decode cX11_dreamsBy 18 = .ok (.iconst 0, 1) := by decide +kernel
theorem dX11_dreamsBy_19 : decode cX11_dreamsBy 19 = .ok (.istore_n 2, 1) := by decide +kernel
theorem dX11_dreamsBy_20 : decode cX11_dreamsBy 20 = .ok (.iconst 0, 1) := by decide +kernel
theorem dX11_dreamsBy_21 : decode cX11_dreamsBy 21 = .ok (.istore_n 3, 1) := by decide +kernel
theorem dX11_dreamsBy_22 : decode cX11_dreamsBy 22 = .ok (.iload_n 3, 1) := by decide +kernel
theorem dX11_dreamsBy_23 : decode cX11_dreamsBy 23 = .ok (.aload_n 0, 1) := by decide +kernel
theorem dX11_dreamsBy_24 : decode cX11_dreamsBy 24 = .ok (.getfield 215, 3) := by decide +kernel
theorem dX11_dreamsBy_27 : decode cX11_dreamsBy 27 = .ok (.if_icmp .ge 57, 3) := by decide +kernel
theorem dX11_dreamsBy_30 : decode cX11_dreamsBy 30 = .ok (.iload_n 2, 1) := by decide +kernel
theorem dX11_dreamsBy_31 : decode cX11_dreamsBy 31 = .ok (.aload_n 0, 1) := by decide +kernel
theorem dX11_dreamsBy_32 : decode cX11_dreamsBy 32 = .ok (.getfield 23, 3) := by decide +kernel
theorem dX11_dreamsBy_35 : decode cX11_dreamsBy 35 = .ok (.iload_n 3, 1) := by decide +kernel
theorem dX11_dreamsBy_36 : decode cX11_dreamsBy 36 = .ok (.iaload, 1) := by decide +kernel
theorem dX11_dreamsBy_37 : decode cX11_dreamsBy 37 = .ok (.iload_n 1, 1) := by decide +kernel
theorem dX11_dreamsBy_38 : decode cX11_dreamsBy 38 = .ok (.if_icmp .ne 37, 3) := by decide +kernel
theorem dX11_dreamsBy_41 : decode cX11_dreamsBy 41 = .ok (.aload_n 0, 1) := by decide +kernel
theorem dX11_dreamsBy_42 : decode cX11_dreamsBy 42 = .ok (.iload_n 1, 1) := by decide +kernel
theorem dX11_dreamsBy_43 : decode cX11_dreamsBy 43 = .ok (.aload_n 0, 1) := by decide +kernel
theorem dX11_dreamsBy_44 : decode cX11_dreamsBy 44 = .ok (.aload_n 0, 1) := by decide +kernel
theorem dX11_dreamsBy_45 : decode cX11_dreamsBy 45 = .ok (.getfield 20, 3) := by decide +kernel
theorem dX11_dreamsBy_48 : decode cX11_dreamsBy 48 = .ok (.iload_n 3, 1) := by decide +kernel
theorem dX11_dreamsBy_49 : decode cX11_dreamsBy 49 = .ok (.iaload, 1) := by decide +kernel
theorem dX11_dreamsBy_50 : decode cX11_dreamsBy 50 = .ok (.invokevirtual 194, 3) := by decide +kernel
theorem dX11_dreamsBy_53 : decode cX11_dreamsBy 53 = .ok (.iconst 2, 1) := by decide +kernel
theorem dX11_dreamsBy_54 : decode cX11_dreamsBy 54 = .ok (.invokevirtual 228, 3) := by decide +kernel
theorem dX11_dreamsBy_57 : decode cX11_dreamsBy 57 = .ok (.ifCond .ne 18, 3) := by decide +kernel
theorem dX11_dreamsBy_60 : decode cX11_dreamsBy 60 = .ok (.iconst 1, 1) := by decide +kernel
theorem dX11_dreamsBy_61 : decode cX11_dreamsBy 61 = .ok (.aload_n 0, 1) := by decide +kernel
theorem dX11_dreamsBy_62 : decode cX11_dreamsBy 62 = .ok (.aload_n 0, 1) := by decide +kernel
theorem dX11_dreamsBy_63 : decode cX11_dreamsBy 63 = .ok (.getfield 20, 3) := by decide +kernel
theorem dX11_dreamsBy_66 : decode cX11_dreamsBy 66 = .ok (.iload_n 3, 1) := by decide +kernel
theorem dX11_dreamsBy_67 : decode cX11_dreamsBy 67 = .ok (.iaload, 1) := by decide +kernel
theorem dX11_dreamsBy_68 : decode cX11_dreamsBy 68 = .ok (.invokevirtual 265, 3) := by decide +kernel
theorem dX11_dreamsBy_71 : decode cX11_dreamsBy 71 = .ok (.ishl, 1) := by decide +kernel
theorem dX11_dreamsBy_72 : decode cX11_dreamsBy 72 = .ok (.goto 4, 3) := by decide +kernel
theorem dX11_dreamsBy_75 : decode cX11_dreamsBy 75 = .ok (.iconst 0, 1) := by decide +kernel
theorem dX11_dreamsBy_76 : decode cX11_dreamsBy 76 = .ok (.ior, 1) := by decide +kernel
theorem dX11_dreamsBy_77 : decode cX11_dreamsBy 77 = .ok (.istore_n 2, 1) := by decide +kernel
theorem dX11_dreamsBy_78 : decode cX11_dreamsBy 78 = .ok (.iinc 3 1, 3) := by decide +kernel
theorem dX11_dreamsBy_81 : decode cX11_dreamsBy 81 = .ok (.goto (-59), 3) := by decide +kernel
theorem dX11_dreamsBy_84 : decode cX11_dreamsBy 84 = .ok (.iload_n 2, 1) := by decide +kernel
theorem dX11_dreamsBy_85 : decode cX11_dreamsBy 85 = .ok (.ireturn, 1) := by decide +kernel
theorem dX11_peopleIn_0 : decode cX11_peopleIn 0 = .ok (.iconst 0, 1) := by decide +kernel
theorem dX11_peopleIn_1 : decode cX11_peopleIn 1 = .ok (.istore_n 2, 1) := by decide +kernel
theorem dX11_peopleIn_2 : decode cX11_peopleIn 2 = .ok (.iconst 0, 1) := by decide +kernel
theorem dX11_peopleIn_3 : decode cX11_peopleIn 3 = .ok (.istore_n 3, 1) := by decide +kernel
theorem dX11_peopleIn_4 : decode cX11_peopleIn 4 = .ok (.iload_n 3, 1) := by decide +kernel
theorem dX11_peopleIn_5 : decode cX11_peopleIn 5 = .ok (.aload_n 0, 1) := by decide +kernel
theorem dX11_peopleIn_6 : decode cX11_peopleIn 6 = .ok (.getfield 185, 3) := by decide +kernel
theorem dX11_peopleIn_9 : decode cX11_peopleIn 9 = .ok (.if_icmp .ge 23, 3) := by decide +kernel
theorem dX11_peopleIn_12 : decode cX11_peopleIn 12 = .ok (.iload_n 2, 1) := by decide +kernel
theorem dX11_peopleIn_13 : decode cX11_peopleIn 13 = .ok (.iload_n 1, 1) := by decide +kernel
theorem dX11_peopleIn_14 : decode cX11_peopleIn 14 = .ok (.iload_n 3, 1) := by decide +kernel
theorem dX11_peopleIn_15 : decode cX11_peopleIn 15 = .ok (.ishr, 1) := by decide +kernel
theorem dX11_peopleIn_16 : decode cX11_peopleIn 16 = .ok (.iconst 1, 1) := by decide +kernel
theorem dX11_peopleIn_17 : decode cX11_peopleIn 17 = .ok (.iand, 1) := by decide +kernel
theorem dX11_peopleIn_18 : decode cX11_peopleIn 18 = .ok (.aload_n 0, 1) := by decide +kernel
theorem dX11_peopleIn_19 : decode cX11_peopleIn 19 = .ok (.iload_n 3, 1) := by decide +kernel
theorem dX11_peopleIn_20 : decode cX11_peopleIn 20 = .ok (.invokevirtual 206, 3) := by decide +kernel
theorem dX11_peopleIn_23 : decode cX11_peopleIn 23 = .ok (.imul, 1) := by decide +kernel
theorem dX11_peopleIn_24 : decode cX11_peopleIn 24 = .ok (.iadd, 1) := by decide +kernel
theorem dX11_peopleIn_25 : decode cX11_peopleIn 25 = .ok (.istore_n 2, 1) := by decide +kernel
theorem dX11_peopleIn_26 : decode cX11_peopleIn 26 = .ok (.iinc 3 1, 3) := by decide +kernel
theorem dX11_peopleIn_29 : decode cX11_peopleIn 29 = .ok (.goto (-25), 3) := by decide +kernel
theorem dX11_peopleIn_32 : decode cX11_peopleIn 32 = .ok (.iload_n 2, 1) := by decide +kernel
theorem dX11_peopleIn_33 : decode cX11_peopleIn 33 = .ok (.ireturn, 1) := by decide +kernel
theorem dX11_spare_0 : decode cX11_spare 0 = .ok (.aload_n 0, 1) := by decide +kernel
theorem dX11_spare_1 : decode cX11_spare 1 = .ok (.iload_n 1, 1) := by decide +kernel
theorem dX11_spare_2 : decode cX11_spare 2 = .ok (.invokevirtual 197, 3) := by decide +kernel
theorem dX11_spare_5 : decode cX11_spare 5 = .ok (.ifCond .ne 6, 3) := by decide +kernel
theorem dX11_spare_8 : decode cX11_spare 8 = .ok (.bipush (-2), 2) := by decide +kernel
theorem dX11_spare_10 : decode cX11_spare 10 = .ok (.ireturn, 1) := by decide +kernel
theorem dX11_spare_11 : decode cX11_spare 11 = .ok (.iload_n 2, 1) := by decide +kernel
theorem dX11_spare_12 : decode cX11_spare 12 = .ok (.bipush 10, 2) := by decide +kernel
theorem dX11_spare_14 : decode cX11_spare 14 = .ok (.bipush 19, 2) := by decide +kernel
theorem dX11_spare_16 : decode cX11_spare 16 = .ok (.invokestatic 123, 3) := by decide +kernel
theorem dX11_spare_19 : decode cX11_spare 19 = .ok (.ifCond .eq 12, 3) := by decide +kernel
theorem dX11_spare_22 : decode cX11_spare 22 = .ok (.aload_n 0, 1) := by decide +kernel
theorem dX11_spare_23 : decode cX11_spare 23 = .ok (.iload_n 2, 1) := by decide +kernel
theorem dX11_spare_24 : decode cX11_spare 24 = .ok (.bipush 10, 2) := by decide +kernel
theorem dX11_spare_26 : decode cX11_spare 26 = .ok (.isub, 1) := by decide +kernel
theorem dX11_spare_27 : decode cX11_spare 27 = .ok (.invokevirtual 258, 3) := by decide +kernel
theorem dX11_spare_30 : decode cX11_spare 30 = .ok (.ireturn, 1) := by decide +kernel
theorem dX11_spare_31 : decode cX11_spare 31 = .ok (.iload_n 2, 1) := by decide +kernel
theorem dX11_spare_32 : decode cX11_spare 32 = .ok (.bipush 20, 2) := by decide +kernel
theorem dX11_spare_34 : decode cX11_spare 34 = .ok (.bipush 29, 2) := by decide +kernel
theorem dX11_spare_36 : decode cX11_spare 36 = .ok (.invokestatic 123, 3) := by decide +kernel
theorem dX11_spare_39 : decode cX11_spare 39 = .ok (.ifCond .eq 38, 3) := by decide +kernel
theorem dX11_spare_42 : decode cX11_spare 42 = .ok (.aload_n 0, 1) := by decide +kernel
theorem dX11_spare_43 : decode cX11_spare 43 = .ok (.iload_n 2, 1) := by decide +kernel
theorem dX11_spare_44 : decode cX11_spare 44 = .ok (.bipush 20, 2) := by decide +kernel
theorem dX11_spare_46 : decode cX11_spare 46 = .ok (.isub, 1) := by decide +kernel
theorem dX11_spare_47 : decode cX11_spare 47 = .ok (.invokevirtual 212, 3) := by decide +kernel
theorem dX11_spare_50 : decode cX11_spare 50 = .ok (.ifCond .eq 27, 3) := by decide +kernel
theorem dX11_spare_53 : decode cX11_spare 53 = .ok (.aload_n 0, 1) := by decide +kernel
theorem dX11_spare_54 : decode cX11_spare 54 = .ok (.iload_n 2, 1) := by decide +kernel
theorem dX11_spare_55 : decode cX11_spare 55 = .ok (.bipush 20, 2) := by decide +kernel
theorem dX11_spare_57 : decode cX11_spare 57 = .ok (.isub, 1) := by decide +kernel
theorem dX11_spare_58 : decode cX11_spare 58 = .ok (.invokevirtual 268, 3) := by decide +kernel
theorem dX11_spare_61 : decode cX11_spare 61 = .ok (.istore_n 3, 1) := by decide +kernel
theorem dX11_spare_62 : decode cX11_spare 62 = .ok (.iload_n 3, 1) := by decide +kernel
theorem dX11_spare_63 : decode cX11_spare 63 = .ok (.iconst (-1), 1) := by decide +kernel
theorem dX11_spare_64 : decode cX11_spare 64 = .ok (.if_icmp .ne 7, 3) := by decide +kernel
theorem dX11_spare_67 : decode cX11_spare 67 = .ok (.iconst (-1), 1) := by decide +kernel
theorem dX11_spare_68 : decode cX11_spare 68 = .ok (.goto 8, 3) := by decide +kernel
theorem dX11_spare_71 : decode cX11_spare 71 = .ok (.aload_n 0, 1) := by decide +kernel
theorem dX11_spare_72 : decode cX11_spare 72 = .ok (.iload_n 3, 1) := by decide +kernel
theorem dX11_spare_73 : decode cX11_spare 73 = .ok (.invokevirtual 271, 3) := by decide +kernel
theorem dX11_spare_76 : decode cX11_spare 76 = .ok (.ireturn, 1) := by decide +kernel
theorem dX11_spare_77 : decode cX11_spare 77 = .ok (.iload_n 2, 1) := by decide +kernel
theorem dX11_spare_78 : decode cX11_spare 78 = .ok (.tableswitch 41 0 2 #[26, 31, 36], 26) := by decide +kernel
theorem dX11_spare_104 : decode cX11_spare 104 = .ok (.aload_n 0, 1) := by decide +kernel
theorem dX11_spare_105 : decode cX11_spare 105 = .ok (.invokevirtual 274, 3) := by decide +kernel
theorem dX11_spare_108 : decode cX11_spare 108 = .ok (.ireturn, 1) := by decide +kernel
theorem dX11_spare_109 : decode cX11_spare 109 = .ok (.aload_n 0, 1) := by decide +kernel
theorem dX11_spare_110 : decode cX11_spare 110 = .ok (.invokevirtual 277, 3) := by decide +kernel
theorem dX11_spare_113 : decode cX11_spare 113 = .ok (.ireturn, 1) := by decide +kernel
theorem dX11_spare_114 : decode cX11_spare 114 = .ok (.aload_n 0, 1) := by decide +kernel
theorem dX11_spare_115 : decode cX11_spare 115 = .ok (.invokevirtual 280, 3) := by decide +kernel
theorem dX11_spare_118 : decode cX11_spare 118 = .ok (.ireturn, 1) := by decide +kernel
theorem dX11_spare_119 : decode cX11_spare 119 = .ok (.bipush (-2), 2) := by decide +kernel
theorem dX11_spare_121 : decode cX11_spare 121 = .ok (.ireturn, 1) := by decide +kernel
theorem dX11_ease_0 : decode cX11_ease 0 = .ok (.aload_n 0, 1) := by decide +kernel
theorem dX11_ease_1 : decode cX11_ease 1 = .ok (.iload_n 1, 1) := by decide +kernel
theorem dX11_ease_2 : decode cX11_ease 2 = .ok (.invokevirtual 197, 3) := by decide +kernel
theorem dX11_ease_5 : decode cX11_ease 5 = .ok (.ifCond .eq 16, 3) := by decide +kernel
theorem dX11_ease_8 : decode cX11_ease 8 = .ok (.iload_n 2, 1) := by decide +kernel
theorem dX11_ease_9 : decode cX11_ease 9 = .ok (.iconst (-1), 1) := by decide +kernel
theorem dX11_ease_10 : decode cX11_ease 10 = .ok (.if_icmp .eq 13, 3) := by decide +kernel
theorem dX11_ease_13 : decode cX11_ease 13 = .ok (.aload_n 0, 1) := by decide +kernel
theorem dX11_ease_14 : decode cX11_ease 14 = .ok (.iload_n 2, 1) := by decide +kernel
theorem dX11_ease_15 : decode cX11_ease 15 = .ok (.invokevirtual 209, 3) := by decide +kernel
theorem dX11_ease_18 : decode cX11_ease 18 = .ok (.ifCond .ne 5, 3) := by decide +kernel
theorem dX11_ease_21 : decode cX11_ease 21 = .ok (.iconst (-1), 1) := by decide +kernel
theorem dX11_ease_22 : decode cX11_ease 22 = .ok (.ireturn, 1) := by decide +kernel
theorem dX11_ease_23 : decode cX11_ease 23 = .ok (.ldc 221, 2) := by decide +kernel
theorem dX11_ease_25 : decode cX11_ease 25 = .ok (.istore_n 3, 1) := by decide +kernel
theorem dX11_ease_26 : decode cX11_ease 26 = .ok (.aload_n 0, 1) := by decide +kernel
theorem dX11_ease_27 : decode cX11_ease 27 = .ok (.aload_n 0, 1) := by decide +kernel
theorem dX11_ease_28 : decode cX11_ease 28 = .ok (.getfield 188, 3) := by decide +kernel
theorem dX11_ease_31 : decode cX11_ease 31 = .ok (.aload_n 0, 1) := by decide +kernel
theorem dX11_ease_32 : decode cX11_ease 32 = .ok (.invokevirtual 245, 3) := by decide +kernel
theorem dX11_ease_35 : decode cX11_ease 35 = .ok (.iconst 0, 1) := by decide +kernel
theorem dX11_ease_36 : decode cX11_ease 36 = .ok (.invokevirtual 237, 3) := by decide +kernel
theorem dX11_ease_39 : decode cX11_ease 39 = .ok (.aload_n 0, 1) := by decide +kernel
theorem dX11_ease_40 : decode cX11_ease 40 = .ok (.invokevirtual 241, 3) := by decide +kernel
theorem dX11_ease_43 : decode cX11_ease 43 = .ok (.ifCond .eq 96, 3) := by decide +kernel
theorem dX11_ease_46 : decode cX11_ease 46 = .ok (.iconst 0, 1) := by decide +kernel
theorem dX11_ease_47 : decode cX11_ease 47 = .ok (.istore 4, 2) := by decide +kernel
theorem dX11_ease_49 : decode cX11_ease 49 = .ok (.iconst 0, 1) := by decide +kernel
theorem dX11_ease_50 : decode cX11_ease 50 = .ok (.istore 5, 2) := by decide +kernel
theorem dX11_ease_52 : decode cX11_ease 52 = .ok (.iload 5, 2) := by decide +kernel
theorem dX11_ease_54 : decode cX11_ease 54 = .ok (.aload_n 0, 1) := by decide +kernel
theorem dX11_ease_55 : decode cX11_ease 55 = .ok (.getfield 191, 3) := by decide +kernel
theorem dX11_ease_58 : decode cX11_ease 58 = .ok (.if_icmp .ge 35, 3) := by decide +kernel
theorem dX11_ease_61 : decode cX11_ease 61 = .ok (.aload_n 0, 1) := by decide +kernel
theorem dX11_ease_62 : decode cX11_ease 62 = .ok (.getfield 26, 3) := by decide +kernel
theorem dX11_ease_65 : decode cX11_ease 65 = .ok (.iload 5, 2) := by decide +kernel
theorem dX11_ease_67 : decode cX11_ease 67 = .ok (.iaload, 1) := by decide +kernel
theorem dX11_ease_68 : decode cX11_ease 68 = .ok (.iload 4, 2) := by decide +kernel
theorem dX11_ease_70 : decode cX11_ease 70 = .ok (.if_icmp .le 13, 3) := by decide +kernel
theorem dX11_ease_73 : decode cX11_ease 73 = .ok (.aload_n 0, 1) := by decide +kernel
theorem dX11_ease_74 : decode cX11_ease 74 = .ok (.getfield 26, 3) := by decide +kernel
theorem dX11_ease_77 : decode cX11_ease 77 = .ok (.iload 5, 2) := by decide +kernel
theorem dX11_ease_79 : decode cX11_ease 79 = .ok (.iaload, 1) := by decide +kernel
theorem dX11_ease_80 : decode cX11_ease 80 = .ok (.goto 5, 3) := by decide +kernel
theorem dX11_ease_83 : decode cX11_ease 83 = .ok (.iload 4, 2) := by decide +kernel
theorem dX11_ease_85 : decode cX11_ease 85 = .ok (.istore 4, 2) := by decide +kernel
theorem dX11_ease_87 : decode cX11_ease 87 = .ok (.iinc 5 1, 3) := by decide +kernel
theorem dX11_ease_90 : decode cX11_ease 90 = .ok (.goto (-38), 3) := by decide +kernel
theorem dX11_ease_93 : decode cX11_ease 93 = .ok (.iload 4, 2) := by decide +kernel
theorem dX11_ease_95 : decode cX11_ease 95 = .ok (.iload_n 3, 1) := by decide +kernel
theorem dX11_ease_96 : decode cX11_ease 96 = .ok (.if_icmp .lt 6, 3) := by decide +kernel
theorem dX11_ease_99 : decode cX11_ease 99 = .ok (.goto (-60), 3) := by decide +kernel
theorem dX11_ease_102 : decode cX11_ease 102 = .ok (.iload 4, 2) := by decide +kernel
theorem dX11_ease_104 : decode cX11_ease 104 = .ok (.istore_n 3, 1) := by decide +kernel
theorem dX11_ease_105 : decode cX11_ease 105 = .ok (.iconst 0, 1) := by decide +kernel
theorem dX11_ease_106 : decode cX11_ease 106 = .ok (.istore 5, 2) := by decide +kernel
theorem dX11_ease_108 : decode cX11_ease 108 = .ok (.iload 5, 2) := by decide +kernel
theorem dX11_ease_110 : decode cX11_ease 110 = .ok (.aload_n 0, 1) := by decide +kernel
theorem dX11_ease_111 : decode cX11_ease 111 = .ok (.getfield 188, 3) := by decide +kernel
theorem dX11_ease_114 : decode cX11_ease 114 = .ok (.if_icmp .ge 22, 3) := by decide +kernel
theorem dX11_ease_117 : decode cX11_ease 117 = .ok (.aload_n 0, 1) := by decide +kernel
theorem dX11_ease_118 : decode cX11_ease 118 = .ok (.getfield 32, 3) := by decide +kernel
theorem dX11_ease_121 : decode cX11_ease 121 = .ok (.iload 5, 2) := by decide +kernel
theorem dX11_ease_123 : decode cX11_ease 123 = .ok (.aload_n 0, 1) := by decide +kernel
theorem dX11_ease_124 : decode cX11_ease 124 = .ok (.iload 5, 2) := by decide +kernel
theorem dX11_ease_126 : decode cX11_ease 126 = .ok (.invokevirtual 252, 3) := by decide +kernel
theorem dX11_ease_129 : decode cX11_ease 129 = .ok (.iastore, 1) := by decide +kernel
theorem dX11_ease_130 : decode cX11_ease 130 = .ok (.iinc 5 1, 3) := by decide +kernel
theorem dX11_ease_133 : decode cX11_ease 133 = .ok (.goto (-25), 3) := by decide +kernel
theorem dX11_ease_136 : decode cX11_ease 136 = .ok (.goto (-97), 3) := by decide +kernel
theorem dX11_ease_139 : decode cX11_ease 139 = .ok (.iload_n 3, 1) := by decide +kernel
theorem dX11_ease_140 : decode cX11_ease 140 = .ok (.ldc 221, 2) := by decide +kernel
theorem dX11_ease_142 : decode cX11_ease 142 = .ok (.if_icmp .ne 7, 3) := by decide +kernel
theorem dX11_ease_145 : decode cX11_ease 145 = .ok (.iconst (-1), 1) := by decide +kernel
theorem dX11_ease_146 : decode cX11_ease 146 = .ok (.goto 18, 3) := by decide +kernel
theorem dX11_ease_149 : decode cX11_ease 149 = .ok (.iload_n 2, 1) := by decide +kernel
theorem dX11_ease_150 : decode cX11_ease 150 = .ok (.iconst (-1), 1) := by decide +kernel
theorem dX11_ease_151 : decode cX11_ease 151 = .ok (.if_icmp .ne 7, 3) := by decide +kernel
theorem dX11_ease_154 : decode cX11_ease 154 = .ok (.iload_n 3, 1) := by decide +kernel
theorem dX11_ease_155 : decode cX11_ease 155 = .ok (.goto 9, 3) := by decide +kernel
theorem dX11_ease_158 : decode cX11_ease 158 = .ok (.aload_n 0, 1) := by decide +kernel
theorem dX11_ease_159 : decode cX11_ease 159 = .ok (.getfield 32, 3) := by decide +kernel
theorem dX11_ease_162 : decode cX11_ease 162 = .ok (.iload_n 2, 1) := by decide +kernel
theorem dX11_ease_163 : decode cX11_ease 163 = .ok (.iaload, 1) := by decide +kernel
theorem dX11_ease_164 : decode cX11_ease 164 = .ok (.ireturn, 1) := by decide +kernel
theorem dX11_hire_0 : decode cX11_hire 0 = .ok (.aload_n 0, 1) := by decide +kernel
theorem dX11_hire_1 : decode cX11_hire 1 = .ok (.iload_n 1, 1) := by decide +kernel
theorem dX11_hire_2 : decode cX11_hire 2 = .ok (.invokevirtual 197, 3) := by decide +kernel
theorem dX11_hire_5 : decode cX11_hire 5 = .ok (.ifCond .ne 5, 3) := by decide +kernel
theorem dX11_hire_8 : decode cX11_hire 8 = .ok (.iconst (-1), 1) := by decide +kernel
theorem dX11_hire_9 : decode cX11_hire 9 = .ok (.ireturn, 1) := by decide +kernel
theorem dX11_hire_10 : decode cX11_hire 10 = .ok (.ldc 221, 2) := by decide +kernel
theorem dX11_hire_12 : decode cX11_hire 12 = .ok (.istore_n 2, 1) := by decide +kernel
theorem dX11_hire_13 : decode cX11_hire 13 = .ok (.aload_n 0, 1) := by decide +kernel
theorem dX11_hire_14 : decode cX11_hire 14 = .ok (.aload_n 0, 1) := by decide +kernel
theorem dX11_hire_15 : decode cX11_hire 15 = .ok (.getfield 188, 3) := by decide +kernel
theorem dX11_hire_18 : decode cX11_hire 18 = .ok (.aload_n 0, 1) := by decide +kernel
theorem dX11_hire_19 : decode cX11_hire 19 = .ok (.invokevirtual 245, 3) := by decide +kernel
theorem dX11_hire_22 : decode cX11_hire 22 = .ok (.iconst 1, 1) := by decide +kernel
theorem dX11_hire_23 : decode cX11_hire 23 = .ok (.aload_n 0, 1) := by decide +kernel
theorem dX11_hire_24 : decode cX11_hire 24 = .ok (.getfield 191, 3) := by decide +kernel
theorem dX11_hire_27 : decode cX11_hire 27 = .ok (.ishl, 1) := by decide +kernel
theorem dX11_hire_28 : decode cX11_hire 28 = .ok (.ior, 1) := by decide +kernel
theorem dX11_hire_29 : decode cX11_hire 29 = .ok (.iconst 0, 1) := by decide +kernel
theorem dX11_hire_30 : decode cX11_hire 30 = .ok (.invokevirtual 237, 3) := by decide +kernel
theorem dX11_hire_33 : decode cX11_hire 33 = .ok (.aload_n 0, 1) := by decide +kernel
theorem dX11_hire_34 : decode cX11_hire 34 = .ok (.invokevirtual 241, 3) := by decide +kernel
theorem dX11_hire_37 : decode cX11_hire 37 = .ok (.ifCond .eq 33, 3) := by decide +kernel
theorem dX11_hire_40 : decode cX11_hire 40 = .ok (.aload_n 0, 1) := by decide +kernel
theorem dX11_hire_41 : decode cX11_hire 41 = .ok (.getfield 26, 3) := by decide +kernel
theorem dX11_hire_44 : decode cX11_hire 44 = .ok (.aload_n 0, 1) := by decide +kernel
theorem dX11_hire_45 : decode cX11_hire 45 = .ok (.getfield 191, 3) := by decide +kernel
theorem dX11_hire_48 : decode cX11_hire 48 = .ok (.iaload, 1) := by decide +kernel
theorem dX11_hire_49 : decode cX11_hire 49 = .ok (.iload_n 2, 1) := by decide +kernel
theorem dX11_hire_50 : decode cX11_hire 50 = .ok (.if_icmp .ge 15, 3) := by decide +kernel
theorem dX11_hire_53 : decode cX11_hire 53 = .ok (.aload_n 0, 1) := by decide +kernel
theorem dX11_hire_54 : decode cX11_hire 54 = .ok (.getfield 26, 3) := by decide +kernel
theorem dX11_hire_57 : decode cX11_hire 57 = .ok (.aload_n 0, 1) := by decide +kernel
theorem dX11_hire_58 : decode cX11_hire 58 = .ok (.getfield 191, 3) := by decide +kernel
theorem dX11_hire_61 : decode cX11_hire 61 = .ok (.iaload, 1) := by decide +kernel
theorem dX11_hire_62 : decode cX11_hire 62 = .ok (.goto 4, 3) := by decide +kernel
theorem dX11_hire_65 : decode cX11_hire 65 = .ok (.iload_n 2, 1) := by decide +kernel
theorem dX11_hire_66 : decode cX11_hire 66 = .ok (.istore_n 2, 1) := by decide +kernel
theorem dX11_hire_67 : decode cX11_hire 67 = .ok (.goto (-34), 3) := by decide +kernel
theorem dX11_hire_70 : decode cX11_hire 70 = .ok (.iload_n 2, 1) := by decide +kernel
theorem dX11_hire_71 : decode cX11_hire 71 = .ok (.bipush 20, 2) := by decide +kernel
theorem dX11_hire_73 : decode cX11_hire 73 = .ok (.if_icmp .le 7, 3) := by decide +kernel
theorem dX11_hire_76 : decode cX11_hire 76 = .ok (.iconst (-1), 1) := by decide +kernel
theorem dX11_hire_77 : decode cX11_hire 77 = .ok (.goto 4, 3) := by decide +kernel
theorem dX11_hire_80 : decode cX11_hire 80 = .ok (.iload_n 2, 1) := by decide +kernel
theorem dX11_hire_81 : decode cX11_hire 81 = .ok (.ireturn, 1) := by decide +kernel
theorem dX11_range_0 : decode cX11_range 0 = .ok (.aload_n 0, 1) := by decide +kernel
theorem dX11_range_1 : decode cX11_range 1 = .ok (.iload_n 1, 1) := by decide +kernel
theorem dX11_range_2 : decode cX11_range 2 = .ok (.invokevirtual 197, 3) := by decide +kernel
theorem dX11_range_5 : decode cX11_range 5 = .ok (.ifCond .eq 15, 3) := by decide +kernel
theorem dX11_range_8 : decode cX11_range 8 = .ok (.iload_n 2, 1) := by decide +kernel
theorem dX11_range_9 : decode cX11_range 9 = .ok (.iconst 0, 1) := by decide +kernel
theorem dX11_range_10 : decode cX11_range 10 = .ok (.aload_n 0, 1) := by decide +kernel
theorem dX11_range_11 : decode cX11_range 11 = .ok (.invokevirtual 245, 3) := by decide +kernel
theorem dX11_range_14 : decode cX11_range 14 = .ok (.invokestatic 123, 3) := by decide +kernel
theorem dX11_range_17 : decode cX11_range 17 = .ok (.ifCond .ne 5, 3) := by decide +kernel
theorem dX11_range_20 : decode cX11_range 20 = .ok (.iconst (-1), 1) := by decide +kernel
theorem dX11_range_21 : decode cX11_range 21 = .ok (.ireturn, 1) := by decide +kernel
theorem dX11_range_22 : decode cX11_range 22 = .ok (.iconst 0, 1) := by decide +kernel
theorem dX11_range_23 : decode cX11_range 23 = .ok (.istore_n 3, 1) := by decide +kernel
theorem dX11_range_24 : decode cX11_range 24 = .ok (.iconst 1, 1) := by decide +kernel
theorem dX11_range_25 : decode cX11_range 25 = .ok (.istore 4, 2) := by decide +kernel
theorem dX11_range_27 : decode cX11_range 27 = .ok (.iload 4, 2) := by decide +kernel
theorem dX11_range_29 : decode cX11_range 29 = .ok (.bipush 10, 2) := by decide +kernel
theorem dX11_range_31 : decode cX11_range 31 = .ok (.if_icmp .ge 77, 3) := by decide +kernel
theorem dX11_range_34 : decode cX11_range 34 = .ok (.iconst 0, 1) := by decide +kernel
theorem dX11_range_35 : decode cX11_range 35 = .ok (.istore 5, 2) := by decide +kernel
theorem dX11_range_37 : decode cX11_range 37 = .ok (.iconst 0, 1) := by decide +kernel
theorem dX11_range_38 : decode cX11_range 38 = .ok (.istore 6, 2) := by decide +kernel
theorem dX11_range_40 : decode cX11_range 40 = .ok (.iload 6, 2) := by decide +kernel
theorem dX11_range_42 : decode cX11_range 42 = .ok (.aload_n 0, 1) := by decide +kernel
theorem dX11_range_43 : decode cX11_range 43 = .ok (.getfield 191, 3) := by decide +kernel
theorem dX11_range_46 : decode cX11_range 46 = .ok (.if_icmp .ge 43, 3) := by decide +kernel
theorem dX11_range_49 : decode cX11_range 49 = .ok (.iload 5, 2) := by decide +kernel
theorem dX11_range_51 : decode cX11_range 51 = .ok (.ifCond .ne 25, 3) := by decide +kernel
theorem dX11_range_54 : decode cX11_range 54 = .ok (.iload_n 2, 1) := by decide +kernel
theorem dX11_range_55 : decode cX11_range 55 = .ok (.iload 6, 2) := by decide +kernel
theorem dX11_range_57 : decode cX11_range 57 = .ok (.ishr, 1) := by decide +kernel
theorem dX11_range_58 : decode cX11_range 58 = .ok (.iconst 1, 1) := by decide +kernel
theorem dX11_range_59 : decode cX11_range 59 = .ok (.iand, 1) := by decide +kernel
theorem dX11_range_60 : decode cX11_range 60 = .ok (.iconst 1, 1) := by decide +kernel
theorem dX11_range_61 : decode cX11_range 61 = .ok (.if_icmp .ne 19, 3) := by decide +kernel
theorem dX11_range_64 : decode cX11_range 64 = .ok (.aload_n 0, 1) := by decide +kernel
theorem dX11_range_65 : decode cX11_range 65 = .ok (.iload 6, 2) := by decide +kernel
theorem dX11_range_67 : decode cX11_range 67 = .ok (.iload 4, 2) := by decide +kernel
theorem dX11_range_69 : decode cX11_range 69 = .ok (.iconst 0, 1) := by decide +kernel
theorem dX11_range_70 : decode cX11_range 70 = .ok (.invokevirtual 228, 3) := by decide +kernel
theorem dX11_range_73 : decode cX11_range 73 = .ok (.ifCond .eq 7, 3) := by decide +kernel
theorem dX11_range_76 : decode cX11_range 76 = .ok (.iconst 1, 1) := by decide +kernel
theorem dX11_range_77 : decode cX11_range 77 = .ok (.goto 4, 3) := by decide +kernel
theorem dX11_range_80 : decode cX11_range 80 = .ok (.iconst 0, 1) := by decide +kernel
theorem dX11_range_81 : decode cX11_range 81 = .ok (.istore 5, 2) := by decide +kernel
theorem dX11_range_83 : decode cX11_range 83 = .ok (.iinc 6 1, 3) := by decide +kernel
theorem dX11_range_86 : decode cX11_range 86 = .ok (.goto (-46), 3) := by decide +kernel
theorem dX11_range_89 : decode cX11_range 89 = .ok (.iload_n 3, 1) := by decide +kernel
theorem dX11_range_90 : decode cX11_range 90 = .ok (.iload 5, 2) := by decide +kernel
theorem dX11_range_92 : decode cX11_range 92 = .ok (.ifCond .eq 7, 3) := by decide +kernel
theorem dX11_range_95 : decode cX11_range 95 = .ok (.iconst 1, 1) := by decide +kernel
theorem dX11_range_96 : decode cX11_range 96 = .ok (.goto 4, 3) := by decide +kernel
theorem dX11_range_99 : decode cX11_range 99 = .ok (.iconst 0, 1) := by decide +kernel
theorem dX11_range_100 : decode cX11_range 100 = .ok (.iadd, 1) := by decide +kernel
theorem dX11_range_101 : decode cX11_range 101 = .ok (.istore_n 3, 1) := by decide +kernel
theorem dX11_range_102 : decode cX11_range 102 = .ok (.iinc 4 1, 3) := by decide +kernel
theorem dX11_range_105 : decode cX11_range 105 = .ok (.goto (-78), 3) := by decide +kernel
theorem dX11_range_108 : decode cX11_range 108 = .ok (.iload_n 3, 1) := by decide +kernel
theorem dX11_range_109 : decode cX11_range 109 = .ok (.ireturn, 1) := by decide +kernel
theorem dX11_sounds_0 : decode cX11_sounds 0 = .ok (.iconst 1, 1) := by decide +kernel
theorem dX11_sounds_1 : decode cX11_sounds 1 = .ok (.istore_n 2, 1) := by decide +kernel
theorem dX11_sounds_2 : decode cX11_sounds 2 = .ok (.iconst 0, 1) := by decide +kernel
theorem dX11_sounds_3 : decode cX11_sounds 3 = .ok (.istore_n 3, 1) := by decide +kernel
theorem dX11_sounds_4 : decode cX11_sounds 4 = .ok (.iload_n 3, 1) := by decide +kernel
theorem dX11_sounds_5 : decode cX11_sounds 5 = .ok (.aload_n 0, 1) := by decide +kernel
theorem dX11_sounds_6 : decode cX11_sounds 6 = .ok (.getfield 188, 3) := by decide +kernel
theorem dX11_sounds_9 : decode cX11_sounds 9 = .ok (.if_icmp .ge 94, 3) := by decide +kernel
theorem dX11_sounds_12 : decode cX11_sounds 12 = .ok (.aload_n 0, 1) := by decide +kernel
theorem dX11_sounds_13 : decode cX11_sounds 13 = .ok (.iload_n 3, 1) := by decide +kernel
theorem dX11_sounds_14 : decode cX11_sounds 14 = .ok (.invokevirtual 194, 3) := by decide +kernel
theorem dX11_sounds_17 : decode cX11_sounds 17 = .ok (.ifCond .ne 7, 3) := by decide +kernel
theorem dX11_sounds_20 : decode cX11_sounds 20 = .ok (.iconst 1, 1) := by decide +kernel
theorem dX11_sounds_21 : decode cX11_sounds 21 = .ok (.goto 4, 3) := by decide +kernel
theorem dX11_sounds_24 : decode cX11_sounds 24 = .ok (.iconst 0, 1) := by decide +kernel
theorem dX11_sounds_25 : decode cX11_sounds 25 = .ok (.istore 4, 2) := by decide +kernel
theorem dX11_sounds_27 : decode cX11_sounds 27 = .ok (.iconst 0, 1) := by decide +kernel
theorem dX11_sounds_28 : decode cX11_sounds 28 = .ok (.istore 5, 2) := by decide +kernel
theorem dX11_sounds_30 : decode cX11_sounds 30 = .ok (.iload 5, 2) := by decide +kernel
theorem dX11_sounds_32 : decode cX11_sounds 32 = .ok (.aload_n 0, 1) := by decide +kernel
theorem dX11_sounds_33 : decode cX11_sounds 33 = .ok (.getfield 191, 3) := by decide +kernel
theorem dX11_sounds_36 : decode cX11_sounds 36 = .ok (.if_icmp .ge 46, 3) := by decide +kernel
theorem dX11_sounds_39 : decode cX11_sounds 39 = .ok (.iload 4, 2) := by decide +kernel
theorem dX11_sounds_41 : decode cX11_sounds 41 = .ok (.ifCond .ne 28, 3) := by decide +kernel
theorem dX11_sounds_44 : decode cX11_sounds 44 = .ok (.iload_n 1, 1) := by decide +kernel
theorem dX11_sounds_45 : decode cX11_sounds 45 = .ok (.iload 5, 2) := by decide +kernel
theorem dX11_sounds_47 : decode cX11_sounds 47 = .ok (.ishr, 1) := by decide +kernel
theorem dX11_sounds_48 : decode cX11_sounds 48 = .ok (.iconst 1, 1) := by decide +kernel
theorem dX11_sounds_49 : decode cX11_sounds 49 = .ok (.iand, 1) := by decide +kernel
theorem dX11_sounds_50 : decode cX11_sounds 50 = .ok (.iconst 1, 1) := by decide +kernel
theorem dX11_sounds_51 : decode cX11_sounds 51 = .ok (.if_icmp .ne 22, 3) := by decide +kernel
theorem dX11_sounds_54 : decode cX11_sounds 54 = .ok (.aload_n 0, 1) := by decide +kernel
theorem dX11_sounds_55 : decode cX11_sounds 55 = .ok (.iload 5, 2) := by decide +kernel
theorem dX11_sounds_57 : decode cX11_sounds 57 = .ok (.aload_n 0, 1) := by decide +kernel
theorem dX11_sounds_58 : decode cX11_sounds 58 = .ok (.iload_n 3, 1) := by decide +kernel
theorem dX11_sounds_59 : decode cX11_sounds 59 = .ok (.invokevirtual 194, 3) := by decide +kernel
theorem dX11_sounds_62 : decode cX11_sounds 62 = .ok (.iconst 0, 1) := by decide +kernel
theorem dX11_sounds_63 : decode cX11_sounds 63 = .ok (.invokevirtual 228, 3) := by decide +kernel
theorem dX11_sounds_66 : decode cX11_sounds 66 = .ok (.ifCond .eq 7, 3) := by decide +kernel
theorem dX11_sounds_69 : decode cX11_sounds 69 = .ok (.iconst 1, 1) := by decide +kernel
theorem dX11_sounds_70 : decode cX11_sounds 70 = .ok (.goto 4, 3) := by decide +kernel
theorem dX11_sounds_73 : decode cX11_sounds 73 = .ok (.iconst 0, 1) := by decide +kernel
theorem dX11_sounds_74 : decode cX11_sounds 74 = .ok (.istore 4, 2) := by decide +kernel
theorem dX11_sounds_76 : decode cX11_sounds 76 = .ok (.iinc 5 1, 3) := by decide +kernel
theorem dX11_sounds_79 : decode cX11_sounds 79 = .ok (.goto (-49), 3) := by decide +kernel
theorem dX11_sounds_82 : decode cX11_sounds 82 = .ok (.iload_n 2, 1) := by decide +kernel
theorem dX11_sounds_83 : decode cX11_sounds 83 = .ok (.ifCond .eq 12, 3) := by decide +kernel
theorem dX11_sounds_86 : decode cX11_sounds 86 = .ok (.iload 4, 2) := by decide +kernel
theorem dX11_sounds_88 : decode cX11_sounds 88 = .ok (.ifCond .eq 7, 3) := by decide +kernel
theorem dX11_sounds_91 : decode cX11_sounds 91 = .ok (.iconst 1, 1) := by decide +kernel
theorem dX11_sounds_92 : decode cX11_sounds 92 = .ok (.goto 4, 3) := by decide +kernel
theorem dX11_sounds_95 : decode cX11_sounds 95 = .ok (.iconst 0, 1) := by decide +kernel
theorem dX11_sounds_96 : decode cX11_sounds 96 = .ok (.istore_n 2, 1) := by decide +kernel
theorem dX11_sounds_97 : decode cX11_sounds 97 = .ok (.iinc 3 1, 3) := by decide +kernel
theorem dX11_sounds_100 : decode cX11_sounds 100 = .ok (.goto (-96), 3) := by decide +kernel
theorem dX11_sounds_103 : decode cX11_sounds 103 = .ok (.iload_n 2, 1) := by decide +kernel
theorem dX11_sounds_104 : decode cX11_sounds 104 = .ok (.ireturn, 1) := by decide +kernel
theorem dX11_choir_0 : decode cX11_choir 0 = .ok (.aload_n 0, 1) := by decide +kernel
theorem dX11_choir_1 : decode cX11_choir 1 = .ok (.iload_n 1, 1) := by decide +kernel
theorem dX11_choir_2 : decode cX11_choir 2 = .ok (.invokevirtual 197, 3) := by decide +kernel
theorem dX11_choir_5 : decode cX11_choir 5 = .ok (.ifCond .ne 5, 3) := by decide +kernel
theorem dX11_choir_8 : decode cX11_choir 8 = .ok (.iconst (-1), 1) := by decide +kernel
theorem dX11_choir_9 : decode cX11_choir 9 = .ok (.ireturn, 1) := by decide +kernel
theorem dX11_choir_10 : decode cX11_choir 10 = .ok (.iconst (-1), 1) := by decide +kernel
theorem dX11_choir_11 : decode cX11_choir 11 = .ok (.istore_n 3, 1) := by decide +kernel
theorem dX11_choir_12 : decode cX11_choir 12 = .ok (.iconst 0, 1) := by decide +kernel
theorem dX11_choir_13 : decode cX11_choir 13 = .ok (.istore 4, 2) := by decide +kernel
theorem dX11_choir_15 : decode cX11_choir 15 = .ok (.iload 4, 2) := by decide +kernel
theorem dX11_choir_17 : decode cX11_choir 17 = .ok (.aload_n 0, 1) := by decide +kernel
theorem dX11_choir_18 : decode cX11_choir 18 = .ok (.invokevirtual 245, 3) := by decide +kernel
theorem dX11_choir_21 : decode cX11_choir 21 = .ok (.if_icmp .gt 38, 3) := by decide +kernel
theorem dX11_choir_24 : decode cX11_choir 24 = .ok (.iload_n 3, 1) := by decide +kernel
theorem dX11_choir_25 : decode cX11_choir 25 = .ok (.iconst (-1), 1) := by decide +kernel
theorem dX11_choir_26 : decode cX11_choir 26 = .ok (.if_icmp .eq 15, 3) := by decide +kernel
theorem dX11_choir_29 : decode cX11_choir 29 = .ok (.iload 4, 2) := by decide +kernel
theorem dX11_choir_31 : decode cX11_choir 31 = .ok (.invokestatic 255, 3) := by decide +kernel
theorem dX11_choir_34 : decode cX11_choir 34 = .ok (.iload_n 3, 1) := by decide +kernel
theorem dX11_choir_35 : decode cX11_choir 35 = .ok (.invokestatic 255, 3) := by decide +kernel
theorem dX11_choir_38 : decode cX11_choir 38 = .ok (.if_icmp .ge 15, 3) := by decide +kernel
theorem dX11_choir_41 : decode cX11_choir 41 = .ok (.aload_n 0, 1) := by decide +kernel
theorem dX11_choir_42 : decode cX11_choir 42 = .ok (.iload 4, 2) := by decide +kernel
theorem dX11_choir_44 : decode cX11_choir 44 = .ok (.invokevirtual 283, 3) := by decide +kernel
theorem dX11_choir_47 : decode cX11_choir 47 = .ok (.ifCond .eq 6, 3) := by decide +kernel
theorem dX11_choir_50 : decode cX11_choir 50 = .ok (.iload 4, 2) := by decide +kernel
theorem dX11_choir_52 : decode cX11_choir 52 = .ok (.istore_n 3, 1) := by decide +kernel
theorem dX11_choir_53 : decode cX11_choir 53 = .ok (.iinc 4 1, 3) := by decide +kernel
theorem dX11_choir_56 : decode cX11_choir 56 = .ok (.goto (-41), 3) := by decide +kernel
theorem dX11_choir_59 : decode cX11_choir 59 = .ok (.iload_n 3, 1) := by decide +kernel
theorem dX11_choir_60 : decode cX11_choir 60 = .ok (.iconst (-1), 1) := by decide +kernel
theorem dX11_choir_61 : decode cX11_choir 61 = .ok (.if_icmp .eq 7, 3) := by decide +kernel
theorem dX11_choir_64 : decode cX11_choir 64 = .ok (.iload_n 2, 1) := by decide +kernel
theorem dX11_choir_65 : decode cX11_choir 65 = .ok (.ifCond .eq 7, 3) := by decide +kernel
theorem dX11_choir_68 : decode cX11_choir 68 = .ok (.iload_n 3, 1) := by decide +kernel
theorem dX11_choir_69 : decode cX11_choir 69 = .ok (.goto 7, 3) := by decide +kernel
theorem dX11_choir_72 : decode cX11_choir 72 = .ok (.iload_n 3, 1) := by decide +kernel
theorem dX11_choir_73 : decode cX11_choir 73 = .ok (.invokestatic 255, 3) := by decide +kernel
theorem dX11_choir_76 : decode cX11_choir 76 = .ok (.ireturn, 1) := by decide +kernel
theorem dX11_shiftedBy_0 : decode cX11_shiftedBy 0 = .ok (.iconst 0, 1) := by decide +kernel
theorem dX11_shiftedBy_1 : decode cX11_shiftedBy 1 = .ok (.istore_n 2, 1) := by decide +kernel
theorem dX11_shiftedBy_2 : decode cX11_shiftedBy 2 = .ok (.iconst 0, 1) := by decide +kernel
theorem dX11_shiftedBy_3 : decode cX11_shiftedBy 3 = .ok (.istore_n 3, 1) := by decide +kernel
theorem dX11_shiftedBy_4 : decode cX11_shiftedBy 4 = .ok (.iload_n 3, 1) := by decide +kernel
theorem dX11_shiftedBy_5 : decode cX11_shiftedBy 5 = .ok (.aload_n 0, 1) := by decide +kernel
theorem dX11_shiftedBy_6 : decode cX11_shiftedBy 6 = .ok (.getfield 188, 3) := by decide +kernel
theorem dX11_shiftedBy_9 : decode cX11_shiftedBy 9 = .ok (.if_icmp .ge 39, 3) := by decide +kernel
theorem dX11_shiftedBy_12 : decode cX11_shiftedBy 12 = .ok (.iload_n 2, 1) := by decide +kernel
theorem dX11_shiftedBy_13 : decode cX11_shiftedBy 13 = .ok (.aload_n 0, 1) := by decide +kernel
theorem dX11_shiftedBy_14 : decode cX11_shiftedBy 14 = .ok (.iload_n 3, 1) := by decide +kernel
theorem dX11_shiftedBy_15 : decode cX11_shiftedBy 15 = .ok (.invokevirtual 194, 3) := by decide +kernel
theorem dX11_shiftedBy_18 : decode cX11_shiftedBy 18 = .ok (.ifCond .le 21, 3) := by decide +kernel
theorem dX11_shiftedBy_21 : decode cX11_shiftedBy 21 = .ok (.aload_n 0, 1) := by decide +kernel
theorem dX11_shiftedBy_22 : decode cX11_shiftedBy 22 = .ok (.aload_n 0, 1) := by decide +kernel
theorem dX11_shiftedBy_23 : decode cX11_shiftedBy 23 = .ok (.iload_n 3, 1) := by decide +kernel
theorem dX11_shiftedBy_24 : decode cX11_shiftedBy 24 = .ok (.invokevirtual 194, 3) := by decide +kernel
theorem dX11_shiftedBy_27 : decode cX11_shiftedBy 27 = .ok (.iload_n 1, 1) := by decide +kernel
theorem dX11_shiftedBy_28 : decode cX11_shiftedBy 28 = .ok (.iadd, 1) := by decide +kernel
theorem dX11_shiftedBy_29 : decode cX11_shiftedBy 29 = .ok (.invokevirtual 261, 3) := by decide +kernel
theorem dX11_shiftedBy_32 : decode cX11_shiftedBy 32 = .ok (.ifCond .eq 7, 3) := by decide +kernel
theorem dX11_shiftedBy_35 : decode cX11_shiftedBy 35 = .ok (.iconst 1, 1) := by decide +kernel
theorem dX11_shiftedBy_36 : decode cX11_shiftedBy 36 = .ok (.goto 4, 3) := by decide +kernel
theorem dX11_shiftedBy_39 : decode cX11_shiftedBy 39 = .ok (.iconst 0, 1) := by decide +kernel
theorem dX11_shiftedBy_40 : decode cX11_shiftedBy 40 = .ok (.iadd, 1) := by decide +kernel
theorem dX11_shiftedBy_41 : decode cX11_shiftedBy 41 = .ok (.istore_n 2, 1) := by decide +kernel
theorem dX11_shiftedBy_42 : decode cX11_shiftedBy 42 = .ok (.iinc 3 1, 3) := by decide +kernel
theorem dX11_shiftedBy_45 : decode cX11_shiftedBy 45 = .ok (.goto (-41), 3) := by decide +kernel
theorem dX11_shiftedBy_48 : decode cX11_shiftedBy 48 = .ok (.iload_n 2, 1) := by decide +kernel
theorem dX11_shiftedBy_49 : decode cX11_shiftedBy 49 = .ok (.ireturn, 1) := by decide +kernel
theorem dX11_shift_0 : decode cX11_shift 0 = .ok (.aload_n 0, 1) := by decide +kernel
theorem dX11_shift_1 : decode cX11_shift 1 = .ok (.iload_n 1, 1) := by decide +kernel
theorem dX11_shift_2 : decode cX11_shift 2 = .ok (.invokevirtual 197, 3) := by decide +kernel
theorem dX11_shift_5 : decode cX11_shift 5 = .ok (.ifCond .eq 22, 3) := by decide +kernel
theorem dX11_shift_8 : decode cX11_shift 8 = .ok (.iload_n 2, 1) := by decide +kernel
theorem dX11_shift_9 : decode cX11_shift 9 = .ok (.bipush (-8), 2) := by decide +kernel
theorem dX11_shift_11 : decode cX11_shift 11 = .ok (.bipush 8, 2) := by decide +kernel
theorem dX11_shift_13 : decode cX11_shift 13 = .ok (.invokestatic 123, 3) := by decide +kernel
theorem dX11_shift_16 : decode cX11_shift 16 = .ok (.ifCond .eq 11, 3) := by decide +kernel
theorem dX11_shift_19 : decode cX11_shift 19 = .ok (.aload_n 0, 1) := by decide +kernel
theorem dX11_shift_20 : decode cX11_shift 20 = .ok (.iload_n 2, 1) := by decide +kernel
theorem dX11_shift_21 : decode cX11_shift 21 = .ok (.invokevirtual 286, 3) := by decide +kernel
theorem dX11_shift_24 : decode cX11_shift 24 = .ok (.goto 4, 3) := by decide +kernel
theorem dX11_shift_27 : decode cX11_shift 27 = .ok (.iconst (-1), 1) := by decide +kernel
theorem dX11_shift_28 : decode cX11_shift 28 = .ok (.ireturn, 1) := by decide +kernel
theorem dX11_tuned_0 : decode cX11_tuned 0 = .ok (.aload_n 0, 1) := by decide +kernel
theorem dX11_tuned_1 : decode cX11_tuned 1 = .ok (.iload_n 1, 1) := by decide +kernel
theorem dX11_tuned_2 : decode cX11_tuned 2 = .ok (.invokevirtual 197, 3) := by decide +kernel
theorem dX11_tuned_5 : decode cX11_tuned 5 = .ok (.ifCond .ne 6, 3) := by decide +kernel
theorem dX11_tuned_8 : decode cX11_tuned 8 = .ok (.bipush (-99), 2) := by decide +kernel
theorem dX11_tuned_10 : decode cX11_tuned 10 = .ok (.ireturn, 1) := by decide +kernel
theorem dX11_tuned_11 : decode cX11_tuned 11 = .ok (.iconst 0, 1) := by decide +kernel
theorem dX11_tuned_12 : decode cX11_tuned 12 = .ok (.istore_n 2, 1) := by decide +kernel
theorem dX11_tuned_13 : decode cX11_tuned 13 = .ok (.iconst 1, 1) := by decide +kernel
theorem dX11_tuned_14 : decode cX11_tuned 14 = .ok (.istore_n 3, 1) := by decide +kernel
theorem dX11_tuned_15 : decode cX11_tuned 15 = .ok (.iload_n 3, 1) := by decide +kernel
theorem dX11_tuned_16 : decode cX11_tuned 16 = .ok (.bipush 9, 2) := by decide +kernel
theorem dX11_tuned_18 : decode cX11_tuned 18 = .ok (.if_icmp .ge 49, 3) := by decide +kernel
theorem dX11_tuned_21 : decode cX11_tuned 21 = .ok (.aload_n 0, 1) := by decide +kernel
theorem dX11_tuned_22 : decode cX11_tuned 22 = .ok (.iload_n 3, 1) := by decide +kernel
theorem dX11_tuned_23 : decode cX11_tuned 23 = .ok (.invokevirtual 286, 3) := by decide +kernel
theorem dX11_tuned_26 : decode cX11_tuned 26 = .ok (.aload_n 0, 1) := by decide +kernel
theorem dX11_tuned_27 : decode cX11_tuned 27 = .ok (.iload_n 2, 1) := by decide +kernel
theorem dX11_tuned_28 : decode cX11_tuned 28 = .ok (.invokevirtual 286, 3) := by decide +kernel
theorem dX11_tuned_31 : decode cX11_tuned 31 = .ok (.if_icmp .le 7, 3) := by decide +kernel
theorem dX11_tuned_34 : decode cX11_tuned 34 = .ok (.iload_n 3, 1) := by decide +kernel
theorem dX11_tuned_35 : decode cX11_tuned 35 = .ok (.goto 4, 3) := by decide +kernel
theorem dX11_tuned_38 : decode cX11_tuned 38 = .ok (.iload_n 2, 1) := by decide +kernel
theorem dX11_tuned_39 : decode cX11_tuned 39 = .ok (.istore_n 2, 1) := by decide +kernel
theorem dX11_tuned_40 : decode cX11_tuned 40 = .ok (.aload_n 0, 1) := by decide +kernel
theorem dX11_tuned_41 : decode cX11_tuned 41 = .ok (.iload_n 3, 1) := by decide +kernel
theorem dX11_tuned_42 : decode cX11_tuned 42 = .ok (.ineg, 1) := by decide +kernel
theorem dX11_tuned_43 : decode cX11_tuned 43 = .ok (.invokevirtual 286, 3) := by decide +kernel
theorem dX11_tuned_46 : decode cX11_tuned 46 = .ok (.aload_n 0, 1) := by decide +kernel
theorem dX11_tuned_47 : decode cX11_tuned 47 = .ok (.iload_n 2, 1) := by decide +kernel
theorem dX11_tuned_48 : decode cX11_tuned 48 = .ok (.invokevirtual 286, 3) := by decide +kernel
theorem dX11_tuned_51 : decode cX11_tuned 51 = .ok (.if_icmp .le 8, 3) := by decide +kernel
theorem dX11_tuned_54 : decode cX11_tuned 54 = .ok (.iload_n 3, 1) := by decide +kernel
theorem dX11_tuned_55 : decode cX11_tuned 55 = .ok (.ineg, 1) := by decide +kernel
theorem dX11_tuned_56 : decode cX11_tuned 56 = .ok (.goto 4, 3) := by decide +kernel
theorem dX11_tuned_59 : decode cX11_tuned 59 = .ok (.iload_n 2, 1) := by decide +kernel
theorem dX11_tuned_60 : decode cX11_tuned 60 = .ok (.istore_n 2, 1) := by decide +kernel
theorem dX11_tuned_61 : decode cX11_tuned 61 = .ok (.iinc 3 1, 3) := by decide +kernel
theorem dX11_tuned_64 : decode cX11_tuned 64 = .ok (.goto (-49), 3) := by decide +kernel
theorem dX11_tuned_67 : decode cX11_tuned 67 = .ok (.iload_n 2, 1) := by decide +kernel
theorem dX11_tuned_68 : decode cX11_tuned 68 = .ok (.ireturn, 1) := by decide +kernel
