theorem dX4_byteAt_0 : decode cX4_byteAt 0 = .ok (.aload_n 0, 1) := by decide +kernel
theorem dX4_byteAt_1 : decode cX4_byteAt 1 = .ok (.getfield 34, 3) := by decide +kernel
theorem dX4_byteAt_4 : decode cX4_byteAt 4 = .ok (.ifnull 37, 3) := by decide +kernel
theorem dX4_byteAt_7 : decode cX4_byteAt 7 = .ok (.iload_n 1, 1) := by decide +kernel
theorem dX4_byteAt_8 : decode cX4_byteAt 8 = .ok (.ifCond .lt 33, 3) := by decide +kernel
theorem dX4_byteAt_11 : decode cX4_byteAt 11 = .ok (.iload_n 1, 1) := by decide +kernel
theorem dX4_byteAt_12 : decode cX4_byteAt 12 = .ok (.aload_n 0, 1) := by decide +kernel
theorem dX4_byteAt_13 : decode cX4_byteAt 13 = .ok (.getfield 38, 3) := by decide +kernel
theorem dX4_byteAt_16 : decode cX4_byteAt 16 = .ok (.if_icmp .ge 25, 3) := by decide +kernel
theorem dX4_byteAt_19 : decode cX4_byteAt 19 = .ok (.iload_n 1, 1) := by decide +kernel
theorem dX4_byteAt_20 : decode cX4_byteAt 20 = .ok (.aload_n 0, 1) := by decide +kernel
theorem dX4_byteAt_21 : decode cX4_byteAt 21 = .ok (.getfield 34, 3) := by decide +kernel
theorem dX4_byteAt_24 : decode cX4_byteAt 24 = .ok (.arraylength, 1) := by decide +kernel
theorem dX4_byteAt_25 : decode cX4_byteAt 25 = .ok (.if_icmp .ge 16, 3) := by decide +kernel
theorem dX4_byteAt_28 : decode cX4_byteAt 28 = .ok (.aload_n 0, 1) := by decide +kernel
theorem dX4_byteAt_29 : decode cX4_byteAt 29 = .ok (.getfield 34, 3) := by decide +kernel
theorem dX4_byteAt_32 : decode cX4_byteAt 32 = .ok (.iload_n 1, 1) := by decide +kernel
theorem dX4_byteAt_33 : decode cX4_byteAt 33 = .ok (.baload, 1) := by decide +kernel
theorem dX4_byteAt_34 : decode cX4_byteAt 34 = .ok (.sipush 255, 3) := by decide +kernel
theorem dX4_byteAt_37 : decode cX4_byteAt 37 = .ok (.iand, 1) := by decide +kernel
theorem dX4_byteAt_38 : decode cX4_byteAt 38 = .ok (.goto 4, 3) := by decide +kernel
theorem dX4_byteAt_41 : decode cX4_byteAt 41 = .ok (.iconst (-1), 1) := by decide +kernel
theorem dX4_byteAt_42 : decode cX4_byteAt 42 = .ok (.ireturn, 1) := by decide +kernel
theorem dX4_isLetter_0 : decode cX4_isLetter 0 = .ok (.iload_n 0, 1) := by decide +kernel
theorem dX4_isLetter_1 : decode cX4_isLetter 1 = .ok (.bipush 97, 2) := by decide +kernel
theorem dX4_isLetter_3 : decode cX4_isLetter 3 = .ok (.if_icmp .lt 13, 3) := by decide +kernel
theorem dX4_isLetter_6 : decode cX4_isLetter 6 = .ok (.iload_n 0, 1) := by decide +kernel
theorem dX4_isLetter_7 : decode cX4_isLetter 7 = .ok (.bipush 122, 2) := by decide +kernel
theorem dX4_isLetter_9 : decode cX4_isLetter 9 = .ok (.if_icmp .gt 7, 3) := by decide +kernel
theorem dX4_isLetter_12 : decode cX4_isLetter 12 = .ok (.iconst 1, 1) := by decide +kernel
theorem dX4_isLetter_13 : decode cX4_isLetter 13 = .ok (.goto 4, 3) := by decide +kernel
theorem dX4_isLetter_16 : decode cX4_isLetter 16 = .ok (.iconst 0, 1) := by decide +kernel
theorem dX4_isLetter_17 : decode cX4_isLetter 17 = .ok (.ireturn, 1) := by decide +kernel
theorem dX4_isDigit_0 : decode cX4_isDigit 0 = .ok (.iload_n 0, 1) := by decide +kernel
theorem dX4_isDigit_1 : decode cX4_isDigit 1 = .ok (.bipush 48, 2) := by decide +kernel
theorem dX4_isDigit_3 : decode cX4_isDigit 3 = .ok (.if_icmp .lt 13, 3) := by decide +kernel
theorem dX4_isDigit_6 : decode cX4_isDigit 6 = .ok (.iload_n 0, 1) := by decide +kernel
theorem dX4_isDigit_7 : decode cX4_isDigit 7 = .ok (.bipush 57, 2) := by decide +kernel
theorem dX4_isDigit_9 : decode cX4_isDigit 9 = .ok (.if_icmp .gt 7, 3) := by decide +kernel
theorem dX4_isDigit_12 : decode cX4_isDigit 12 = .ok (.iconst 1, 1) := by decide +kernel
theorem dX4_isDigit_13 : decode cX4_isDigit 13 = .ok (.goto 4, 3) := by decide +kernel
theorem dX4_isDigit_16 : decode cX4_isDigit 16 = .ok (.iconst 0, 1) := by decide +kernel
theorem dX4_isDigit_17 : decode cX4_isDigit 17 = .ok (.ireturn, 1) := by decide +kernel
theorem dX4_advance_0 : decode cX4_advance 0 = .ok (.aload_n 0, 1) := by decide +kernel
theorem dX4_advance_1 : decode cX4_advance 1 = .ok (.aload_n 0, 1) := by decide +kernel
theorem dX4_advance_2 : decode cX4_advance 2 = .ok (.getfield 47, 3) := by decide +kernel
theorem dX4_advance_5 : decode cX4_advance 5 = .ok (.putfield 44, 3) := by decide +kernel
theorem dX4_advance_8 : decode cX4_advance 8 = .ok (.aload_n 0, 1) := by decide +kernel
theorem dX4_advance_9 : decode cX4_advance 9 = .ok (.getfield 44, 3) := by decide +kernel
theorem dX4_advance_12 : decode cX4_advance 12 = .ok (.aload_n 0, 1) := by decide +kernel
theorem dX4_advance_13 : decode cX4_advance 13 = .ok (.getfield 38, 3) := by decide +kernel
theorem dX4_advance_16 : decode cX4_advance 16 = .ok (.if_icmp .ge 42, 3) := by decide +kernel
theorem dX4_advance_19 : decode cX4_advance 19 = .ok (.aload_n 0, 1) := by decide +kernel
theorem dX4_advance_20 : decode cX4_advance 20 = .ok (.aload_n 0, 1) := by decide +kernel
theorem dX4_advance_21 : decode cX4_advance 21 = .ok (.getfield 44, 3) := by decide +kernel
theorem dX4_advance_24 : decode cX4_advance 24 = .ok (.invokevirtual 171, 3) := by decide +kernel
theorem dX4_advance_27 : decode cX4_advance 27 = .ok (.bipush 10, 2) := by decide +kernel
theorem dX4_advance_29 : decode cX4_advance 29 = .ok (.if_icmp .eq 16, 3) := by decide +kernel
theorem dX4_advance_32 : decode cX4_advance 32 = .ok (.aload_n 0, 1) := by decide +kernel
theorem dX4_advance_33 : decode cX4_advance 33 = .ok (.aload_n 0, 1) := by decide +kernel
theorem dX4_advance_34 : decode cX4_advance 34 = .ok (.getfield 44, 3) := by decide +kernel
theorem dX4_advance_37 : decode cX4_advance 37 = .ok (.invokevirtual 171, 3) := by decide +kernel
theorem dX4_advance_40 : decode cX4_advance 40 = .ok (.bipush 32, 2) := by decide +kernel
theorem dX4_advance_42 : decode cX4_advance 42 = .ok (.if_icmp .ne 16, 3) := by decide +kernel
theorem dX4_advance_45 : decode cX4_advance 45 = .ok (.aload_n 0, 1) := by decide +kernel
theorem dX4_advance_46 : decode cX4_advance 46 = .ok (.dup, 1) := by decide +kernel
theorem dX4_advance_47 : decode cX4_advance 47 = .ok (.getfield 44, 3) := by decide +kernel
theorem dX4_advance_50 : decode cX4_advance 50 = .ok (.iconst 1, 1) := by decide +kernel
theorem dX4_advance_51 : decode cX4_advance 51 = .ok (.iadd, 1) := by decide +kernel
theorem dX4_advance_52 : decode cX4_advance 52 = .ok (.putfield 44, 3) := by decide +kernel
theorem dX4_advance_55 : decode cX4_advance 55 = .ok (.goto (-47), 3) := by decide +kernel
theorem dX4_advance_58 : decode cX4_advance 58 = .ok (.aload_n 0, 1) := by decide +kernel
theorem dX4_advance_59 : decode cX4_advance 59 = .ok (.aload_n 0, 1) := by decide +kernel
theorem dX4_advance_60 : decode cX4_advance 60 = .ok (.getfield 44, 3) := by decide +kernel
theorem dX4_advance_63 : decode cX4_advance 63 = .ok (.putfield 47, 3) := by decide +kernel
theorem dX4_advance_66 : decode cX4_advance 66 = .ok (.aload_n 0, 1) := by decide +kernel
theorem dX4_advance_67 : decode cX4_advance 67 = .ok (.iconst 0, 1) := by decide +kernel
theorem dX4_advance_68 : decode cX4_advance 68 = .ok (.putfield 50, 3) := by decide +kernel
theorem dX4_advance_71 : decode cX4_advance 71 = .ok (.aload_n 0, 1) := by decide +kernel
theorem dX4_advance_72 : decode cX4_advance 72 = .ok (.aload_n 0, 1) := by decide +kernel
theorem dX4_advance_73 : decode cX4_advance 73 = .ok (.getfield 44, 3) := by decide +kernel
theorem dX4_advance_76 : decode cX4_advance 76 = .ok (.invokevirtual 171, 3) := by decide +kernel
theorem dX4_advance_79 : decode cX4_advance 79 = .ok (.istore_n 1, 1) := by decide +kernel
theorem dX4_advance_80 : decode cX4_advance 80 = .ok (.aload_n 0, 1) := by decide +kernel
theorem dX4_advance_81 : decode cX4_advance 81 = .ok (.getfield 44, 3) := by decide +kernel
theorem dX4_advance_84 : decode cX4_advance 84 = .ok (.aload_n 0, 1) := by decide +kernel
theorem dX4_advance_85 : decode cX4_advance 85 = .ok (.getfield 38, 3) := by decide +kernel
theorem dX4_advance_88 : decode cX4_advance 88 = .ok (.if_icmp .lt 11, 3) := by decide +kernel
theorem dX4_advance_91 : decode cX4_advance 91 = .ok (.aload_n 0, 1) := by decide +kernel
theorem dX4_advance_92 : decode cX4_advance 92 = .ok (.iconst 0, 1) := by decide +kernel
theorem dX4_advance_93 : decode cX4_advance 93 = .ok (.putfield 41, 3) := by decide +kernel
theorem dX4_advance_96 : decode cX4_advance 96 = .ok (.goto 177, 3) := by decide +kernel
theorem dX4_advance_99 : decode cX4_advance 99 = .ok (.iload_n 1, 1) := by decide +kernel
theorem dX4_advance_100 : decode cX4_advance 100 = .ok (.invokestatic 178, 3) := by decide +kernel
theorem dX4_advance_103 : decode cX4_advance 103 = .ok (.ifCond .eq 46, 3) := by decide +kernel
theorem dX4_advance_106 : decode cX4_advance 106 = .ok (.aload_n 0, 1) := by decide +kernel
theorem dX4_advance_107 : decode cX4_advance 107 = .ok (.iconst 1, 1) := by decide +kernel
theorem dX4_advance_108 : decode cX4_advance 108 = .ok (.putfield 41, 3) := by decide +kernel
theorem dX4_advance_111 : decode cX4_advance 111 = .ok (.aload_n 0, 1) := by decide +kernel
theorem dX4_advance_112 : decode cX4_advance 112 = .ok (.getfield 47, 3) := by decide +kernel
theorem dX4_advance_115 : decode cX4_advance 115 = .ok (.aload_n 0, 1) := by decide +kernel
theorem dX4_advance_116 : decode cX4_advance 116 = .ok (.getfield 38, 3) := by decide +kernel
theorem dX4_advance_119 : decode cX4_advance 119 = .ok (.if_icmp .ge 154, 3) := by decide +kernel
theorem dX4_advance_122 : decode cX4_advance 122 = .ok (.aload_n 0, 1) := by decide +kernel
theorem dX4_advance_123 : decode cX4_advance 123 = .ok (.aload_n 0, 1) := by decide +kernel
theorem dX4_advance_124 : decode cX4_advance 124 = .ok (.getfield 47, 3) := by decide +kernel
theorem dX4_advance_127 : decode cX4_advance 127 = .ok (.invokevirtual 171, 3) := by decide +kernel
theorem dX4_advance_130 : decode cX4_advance 130 = .ok (.invokestatic 178, 3) := by decide +kernel
theorem dX4_advance_133 : decode cX4_advance 133 = .ok (.ifCond .eq 140, 3) := by decide +kernel
theorem dX4_advance_136 : decode cX4_advance 136 = .ok (.aload_n 0, 1) := by decide +kernel
theorem dX4_advance_137 : decode cX4_advance 137 = .ok (.dup, 1) := by decide +kernel
theorem dX4_advance_138 : decode cX4_advance 138 = .ok (.getfield 47, 3) := by decide +kernel
theorem dX4_advance_141 : decode cX4_advance 141 = .ok (.iconst 1, 1) := by decide +kernel
theorem dX4_advance_142 : decode cX4_advance 142 = .ok (.iadd, 1) := by decide +kernel
theorem dX4_advance_143 : decode cX4_advance 143 = .ok (.putfield 47, 3) := by decide +kernel
theorem dX4_advance_146 : decode cX4_advance 146 = .ok (.goto (-35), 3) := by decide +kernel
theorem dX4_advance_149 : decode cX4_advance 149 = .ok (.iload_n 1, 1) := by decide +kernel
theorem dX4_advance_150 : decode cX4_advance 150 = .ok (.invokestatic 182, 3) := by decide +kernel
theorem dX4_advance_153 : decode cX4_advance 153 = .ok (.ifCond .eq 95, 3) := by decide +kernel
theorem dX4_advance_156 : decode cX4_advance 156 = .ok (.aload_n 0, 1) := by decide +kernel
theorem dX4_advance_157 : decode cX4_advance 157 = .ok (.getfield 47, 3) := by decide +kernel
theorem dX4_advance_160 : decode cX4_advance 160 = .ok (.aload_n 0, 1) := by decide +kernel
theorem dX4_advance_161 : decode cX4_advance 161 = .ok (.getfield 38, 3) := by decide +kernel
theorem dX4_advance_164 : decode cX4_advance 164 = .ok (.if_icmp .ge 59, 3) := by decide +kernel
theorem dX4_advance_167 : decode cX4_advance 167 = .ok (.aload_n 0, 1) := by decide +kernel
theorem dX4_advance_168 : decode cX4_advance 168 = .ok (.aload_n 0, 1) := by decide +kernel
theorem dX4_advance_169 : decode cX4_advance 169 = .ok (.getfield 47, 3) := by decide +kernel
theorem dX4_advance_172 : decode cX4_advance 172 = .ok (.invokevirtual 171, 3) := by decide +kernel
theorem dX4_advance_175 : decode cX4_advance 175 = .ok (.invokestatic 182, 3) := by decide +kernel
theorem dX4_advance_178 : decode cX4_advance 178 = .ok (.ifCond .eq 45, 3) := by decide +kernel
theorem dX4_advance_181 : decode cX4_advance 181 = .ok (.aload_n 0, 1) := by decide +kernel
theorem dX4_advance_182 : decode cX4_advance 182 = .ok (.sipush 999, 3) := by decide +kernel
theorem dX4_advance_185 : decode cX4_advance 185 = .ok (.aload_n 0, 1) := by decide +kernel
theorem dX4_advance_186 : decode cX4_advance 186 = .ok (.getfield 50, 3) := by decide +kernel
theorem dX4_advance_189 : decode cX4_advance 189 = .ok (.bipush 10, 2) := by decide +kernel
theorem dX4_advance_191 : decode cX4_advance 191 = .ok (.imul, 1) := by decide +kernel
theorem dX4_advance_192 : decode cX4_advance 192 = .ok (.aload_n 0, 1) := by decide +kernel
theorem dX4_advance_193 : decode cX4_advance 193 = .ok (.aload_n 0, 1) := by decide +kernel
theorem dX4_advance_194 : decode cX4_advance 194 = .ok (.getfield 47, 3) := by decide +kernel
theorem dX4_advance_197 : decode cX4_advance 197 = .ok (.invokevirtual 171, 3) := by decide +kernel
theorem dX4_advance_200 : decode cX4_advance 200 = .ok (.iadd, 1) := by decide +kernel
theorem dX4_advance_201 : decode cX4_advance 201 = .ok (.bipush 48, 2) := by decide +kernel
theorem dX4_advance_203 : decode cX4_advance 203 = .ok (.isub, 1) := by decide +kernel
theorem dX4_advance_204 : decode cX4_advance 204 = .ok (.invokestatic 185, 3) := by decide +kernel
theorem dX4_advance_207 : decode cX4_advance 207 = .ok (.putfield 50, 3) := by decide +kernel
theorem dX4_advance_210 : decode cX4_advance 210 = .ok (.aload_n 0, 1) := by decide +kernel
theorem dX4_advance_211 : decode cX4_advance 211 = .ok (.dup, 1) := by decide +kernel
theorem dX4_advance_212 : decode cX4_advance 212 = .ok (.getfield 47, 3) := by decide +kernel
theorem dX4_advance_215 : decode cX4_advance 215 = .ok (.iconst 1, 1) := by decide +kernel
theorem dX4_advance_216 : decode cX4_advance 216 = .ok (.iadd, 1) := by decide +kernel
theorem dX4_advance_217 : decode cX4_advance 217 = .ok (.putfield 47, 3) := by decide +kernel
theorem dX4_advance_220 : decode cX4_advance 220 = .ok (.goto (-64), 3) := by decide +kernel
theorem dX4_advance_223 : decode cX4_advance 223 = .ok (.aload_n 0, 1) := by decide +kernel
theorem dX4_advance_224 : decode cX4_advance 224 = .ok (.aload_n 0, 1) := by decide +kernel
theorem dX4_advance_225 : decode cX4_advance 225 = .ok (.getfield 47, 3) := by decide +kernel
theorem dX4_advance_228 : decode cX4_advance 228 = .ok (.aload_n 0, 1) := by decide +kernel
theorem dX4_advance_229 : decode cX4_advance 229 = .ok (.getfield 44, 3) := by decide +kernel
theorem dX4_advance_232 : decode cX4_advance 232 = .ok (.isub, 1) := by decide +kernel
theorem dX4_advance_233 : decode cX4_advance 233 = .ok (.iconst 2, 1) := by decide +kernel
theorem dX4_advance_234 : decode cX4_advance 234 = .ok (.if_icmp .gt 7, 3) := by decide +kernel
theorem dX4_advance_237 : decode cX4_advance 237 = .ok (.iconst 2, 1) := by decide +kernel
theorem dX4_advance_238 : decode cX4_advance 238 = .ok (.goto 4, 3) := by decide +kernel
theorem dX4_advance_241 : decode cX4_advance 241 = .ok (.iconst 4, 1) := by decide +kernel
theorem dX4_advance_242 : decode cX4_advance 242 = .ok (.putfield 41, 3) := by decide +kernel
theorem dX4_advance_245 : decode cX4_advance 245 = .ok (.goto 28, 3) := by decide +kernel
theorem dX4_advance_248 : decode cX4_advance 248 = .ok (.aload_n 0, 1) := by decide +kernel
theorem dX4_advance_249 : decode cX4_advance 249 = .ok (.iload_n 1, 1) := by decide +kernel
theorem dX4_advance_250 : decode cX4_advance 250 = .ok (.bipush 59, 2) := by decide +kernel
theorem dX4_advance_252 : decode cX4_advance 252 = .ok (.if_icmp .ne 7, 3) := by decide +kernel
theorem dX4_advance_255 : decode cX4_advance 255 = .ok (.iconst 3, 1) := by decide +kernel
theorem dX4_advance_256 : decode cX4_advance 256 = .ok (.goto 4, 3) := by decide +kernel
theorem dX4_advance_259 : decode cX4_advance 259 = .ok (.iconst 4, 1) := by decide +kernel
theorem dX4_advance_260 : decode cX4_advance 260 = .ok (.putfield 41, 3) := by decide +kernel
theorem dX4_advance_263 : decode cX4_advance 263 = .ok (.aload_n 0, 1) := by decide +kernel
theorem dX4_advance_264 : decode cX4_advance 264 = .ok (.dup, 1) := by decide +kernel
theorem dX4_advance_265 : decode cX4_advance 265 = .ok (.getfield 47, 3) := by decide +kernel
theorem dX4_advance_268 : decode cX4_advance 268 = .ok (.iconst 1, 1) := by decide +kernel
theorem dX4_advance_269 : decode cX4_advance 269 = .ok (.iadd, 1) := by decide +kernel
theorem dX4_advance_270 : decode cX4_advance 270 = .ok (.putfield 47, 3) := by decide +kernel
theorem dX4_advance_273 : decode cX4_advance 273 = .ok (.return_, 1) := by decide +kernel
theorem dX4_wordOf_0 : decode cX4_wordOf 0 = .ok (.iload_n 0, 1) := by decide +kernel
theorem dX4_wordOf_1 : decode cX4_wordOf 1 = .ok (.tableswitch 92 0 10 #[59, 62, 65, 68, 71, 74, 77, 80, 83, 86, 89], 59) := by decide +kernel
theorem dX4_wordOf_60 : decode cX4_wordOf 60 = .ok (.ldc 142, 2) := by decide +kernel
theorem dX4_wordOf_62 : decode cX4_wordOf 62 = .ok (.areturn, 1) := by decide +kernel
theorem dX4_wordOf_63 : decode cX4_wordOf 63 = .ok (.ldc 144, 2) := by decide +kernel
theorem dX4_wordOf_65 : decode cX4_wordOf 65 = .ok (.areturn, 1) := by decide +kernel
theorem dX4_wordOf_66 : decode cX4_wordOf 66 = .ok (.ldc 146, 2) := by decide +kernel
theorem dX4_wordOf_68 : decode cX4_wordOf 68 = .ok (.areturn, 1) := by decide +kernel
theorem dX4_wordOf_69 : decode cX4_wordOf 69 = .ok (.ldc 148, 2) := by decide +kernel
theorem dX4_wordOf_71 : decode cX4_wordOf 71 = .ok (.areturn, 1) := by decide +kernel
theorem dX4_wordOf_72 : decode cX4_wordOf 72 = .ok (.ldc 149, 2) := by decide +kernel
theorem dX4_wordOf_74 : decode cX4_wordOf 74 = .ok (.areturn, 1) := by decide +kernel
theorem dX4_wordOf_75 : decode cX4_wordOf 75 = .ok (.ldc 151, 2) := by decide +kernel
theorem dX4_wordOf_77 : decode cX4_wordOf 77 = .ok (.areturn, 1) := by decide +kernel
theorem dX4_wordOf_78 : decode cX4_wordOf 78 = .ok (.ldc 153, 2) := by decide +kernel
theorem dX4_wordOf_80 : decode cX4_wordOf 80 = .ok (.areturn, 1) := by decide +kernel
theorem dX4_wordOf_81 : decode cX4_wordOf 81 = .ok (.ldc 155, 2) := by decide +kernel
theorem dX4_wordOf_83 : decode cX4_wordOf 83 = .ok (.areturn, 1) := by decide +kernel
theorem dX4_wordOf_84 : decode cX4_wordOf 84 = .ok (.ldc 157, 2) := by decide +kernel
theorem dX4_wordOf_86 : decode cX4_wordOf 86 = .ok (.areturn, 1) := by decide +kernel
theorem dX4_wordOf_87 : decode cX4_wordOf 87 = .ok (.ldc 159, 2) := by decide +kernel
theorem dX4_wordOf_89 : decode cX4_wordOf 89 = .ok (.areturn, 1) := by decide +kernel
theorem dX4_wordOf_90 : decode cX4_wordOf 90 = .ok (.ldc 161, 2) := by decide +kernel
theorem dX4_wordOf_92 : decode cX4_wordOf 92 = .ok (.areturn, 1) := by decide +kernel
theorem dX4_wordOf_93 : decode cX4_wordOf 93 = .ok (.ldc 163, 2) := by decide +kernel
theorem dX4_wordOf_95 : decode cX4_wordOf 95 = .ok (.areturn, 1) := by decide +kernel
theorem dX4_isWord_0 : decode cX4_isWord 0 = .ok (.aload_n 0, 1) := by decide +kernel
theorem dX4_isWord_1 : decode cX4_isWord 1 = .ok (.getfield 47, 3) := by decide +kernel
theorem dX4_isWord_4 : decode cX4_isWord 4 = .ok (.aload_n 0, 1) := by decide +kernel
theorem dX4_isWord_5 : decode cX4_isWord 5 = .ok (.getfield 44, 3) := by decide +kernel
theorem dX4_isWord_8 : decode cX4_isWord 8 = .ok (.isub, 1) := by decide +kernel
theorem dX4_isWord_9 : decode cX4_isWord 9 = .ok (.aload_n 1, 1) := by decide +kernel
theorem dX4_isWord_10 : decode cX4_isWord 10 = .ok (.invokevirtual 165, 3) := by decide +kernel
theorem dX4_isWord_13 : decode cX4_isWord 13 = .ok (.if_icmp .eq 5, 3) := by decide +kernel
theorem dX4_isWord_16 : decode cX4_isWord 16 = .ok (.iconst 0, 1) := by decide +kernel
theorem dX4_isWord_17 : decode cX4_isWord 17 = .ok (.ireturn, 1) := by decide +kernel
theorem dX4_isWord_18 : decode cX4_isWord 18 = .ok (.iconst 0, 1) := by decide +kernel
theorem dX4_isWord_19 : decode cX4_isWord 19 = .ok (.istore_n 2, 1) := by decide +kernel
theorem dX4_isWord_20 : decode cX4_isWord 20 = .ok (.iload_n 2, 1) := by decide +kernel
theorem dX4_isWord_21 : decode cX4_isWord 21 = .ok (.aload_n 1, 1) := by decide +kernel
theorem dX4_isWord_22 : decode cX4_isWord 22 = .ok (.invokevirtual 165, 3) := by decide +kernel
theorem dX4_isWord_25 : decode cX4_isWord 25 = .ok (.if_icmp .ge 29, 3) := by decide +kernel
theorem dX4_isWord_28 : decode cX4_isWord 28 = .ok (.aload_n 0, 1) := by decide +kernel
theorem dX4_isWord_29 : decode cX4_isWord 29 = .ok (.aload_n 0, 1) := by decide +kernel
theorem dX4_isWord_30 : decode cX4_isWord 30 = .ok (.getfield 44, 3) := by decide +kernel
theorem dX4_isWord_33 : decode cX4_isWord 33 = .ok (.iload_n 2, 1) := by decide +kernel
theorem dX4_isWord_34 : decode cX4_isWord 34 = .ok (.iadd, 1) := by decide +kernel
theorem dX4_isWord_35 : decode cX4_isWord 35 = .ok (.invokevirtual 171, 3) := by decide +kernel
theorem dX4_isWord_38 : decode cX4_isWord 38 = .ok (.aload_n 1, 1) := by decide +kernel
theorem dX4_isWord_39 : decode cX4_isWord 39 = .ok (.iload_n 2, 1) := by decide +kernel
theorem dX4_isWord_40 : decode cX4_isWord 40 = .ok (.invokevirtual 174, 3) := by decide +kernel
theorem dX4_isWord_43 : decode cX4_isWord 43 = .ok (.if_icmp .eq 5, 3) := by decide +kernel
theorem dX4_isWord_46 : decode cX4_isWord 46 = .ok (.iconst 0, 1) := by decide +kernel
theorem dX4_isWord_47 : decode cX4_isWord 47 = .ok (.ireturn, 1) := by decide +kernel
theorem dX4_isWord_48 : decode cX4_isWord 48 = .ok (.iinc 2 1, 3) := by decide +kernel
theorem dX4_isWord_51 : decode cX4_isWord 51 = .ok (.goto (-31), 3) := by decide +kernel
theorem dX4_isWord_54 : decode cX4_isWord 54 = .ok (.iconst 1, 1) := by decide +kernel
theorem dX4_isWord_55 : decode cX4_isWord 55 = .ok (.ireturn, 1) := by decide +kernel
theorem dX4_lineOf_0 : decode cX4_lineOf 0 = .ok (.iload_n 1, 1) := by decide +kernel
theorem dX4_lineOf_1 : decode cX4_lineOf 1 = .ok (.ifCond .ne 7, 3) := by decide +kernel
theorem dX4_lineOf_4 : decode cX4_lineOf 4 = .ok (.iconst 0, 1) := by decide +kernel
theorem dX4_lineOf_5 : decode cX4_lineOf 5 = .ok (.goto 14, 3) := by decide +kernel
theorem dX4_lineOf_8 : decode cX4_lineOf 8 = .ok (.iload_n 1, 1) := by decide +kernel
theorem dX4_lineOf_9 : decode cX4_lineOf 9 = .ok (.iconst 1, 1) := by decide +kernel
theorem dX4_lineOf_10 : decode cX4_lineOf 10 = .ok (.if_icmp .ne 7, 3) := by decide +kernel
theorem dX4_lineOf_13 : decode cX4_lineOf 13 = .ok (.iconst 5, 1) := by decide +kernel
theorem dX4_lineOf_14 : decode cX4_lineOf 14 = .ok (.goto 5, 3) := by decide +kernel
theorem dX4_lineOf_17 : decode cX4_lineOf 17 = .ok (.bipush 10, 2) := by decide +kernel
theorem dX4_lineOf_19 : decode cX4_lineOf 19 = .ok (.istore_n 2, 1) := by decide +kernel
theorem dX4_lineOf_20 : decode cX4_lineOf 20 = .ok (.iload_n 1, 1) := by decide +kernel
theorem dX4_lineOf_21 : decode cX4_lineOf 21 = .ok (.ifCond .ne 7, 3) := by decide +kernel
theorem dX4_lineOf_24 : decode cX4_lineOf 24 = .ok (.iconst 5, 1) := by decide +kernel
theorem dX4_lineOf_25 : decode cX4_lineOf 25 = .ok (.goto 15, 3) := by decide +kernel
theorem dX4_lineOf_28 : decode cX4_lineOf 28 = .ok (.iload_n 1, 1) := by decide +kernel
theorem dX4_lineOf_29 : decode cX4_lineOf 29 = .ok (.iconst 1, 1) := by decide +kernel
theorem dX4_lineOf_30 : decode cX4_lineOf 30 = .ok (.if_icmp .ne 8, 3) := by decide +kernel
theorem dX4_lineOf_33 : decode cX4_lineOf 33 = .ok (.bipush 10, 2) := by decide +kernel
theorem dX4_lineOf_35 : decode cX4_lineOf 35 = .ok (.goto 5, 3) := by decide +kernel
theorem dX4_lineOf_38 : decode cX4_lineOf 38 = .ok (.bipush 12, 2) := by decide +kernel
theorem dX4_lineOf_40 : decode cX4_lineOf 40 = .ok (.istore_n 3, 1) := by decide +kernel
theorem dX4_lineOf_41 : decode cX4_lineOf 41 = .ok (.iload_n 2, 1) := by decide +kernel
theorem dX4_lineOf_42 : decode cX4_lineOf 42 = .ok (.istore 4, 2) := by decide +kernel
theorem dX4_lineOf_44 : decode cX4_lineOf 44 = .ok (.iload 4, 2) := by decide +kernel
theorem dX4_lineOf_46 : decode cX4_lineOf 46 = .ok (.iload_n 3, 1) := by decide +kernel
theorem dX4_lineOf_47 : decode cX4_lineOf 47 = .ok (.if_icmp .ge 32, 3) := by decide +kernel
theorem dX4_lineOf_50 : decode cX4_lineOf 50 = .ok (.aload_n 0, 1) := by decide +kernel
theorem dX4_lineOf_51 : decode cX4_lineOf 51 = .ok (.getfield 41, 3) := by decide +kernel
theorem dX4_lineOf_54 : decode cX4_lineOf 54 = .ok (.iconst 1, 1) := by decide +kernel
theorem dX4_lineOf_55 : decode cX4_lineOf 55 = .ok (.if_icmp .ne 18, 3) := by decide +kernel
theorem dX4_lineOf_58 : decode cX4_lineOf 58 = .ok (.aload_n 0, 1) := by decide +kernel
theorem dX4_lineOf_59 : decode cX4_lineOf 59 = .ok (.iload 4, 2) := by decide +kernel
theorem dX4_lineOf_61 : decode cX4_lineOf 61 = .ok (.invokestatic 134, 3) := by decide +kernel
theorem dX4_lineOf_64 : decode cX4_lineOf 64 = .ok (.invokevirtual 138, 3) := by decide +kernel
theorem dX4_lineOf_67 : decode cX4_lineOf 67 = .ok (.ifCond .eq 6, 3) := by decide +kernel
theorem dX4_lineOf_70 : decode cX4_lineOf 70 = .ok (.iload 4, 2) := by decide +kernel
theorem dX4_lineOf_72 : decode cX4_lineOf 72 = .ok (.ireturn, 1) := by decide +kernel
theorem dX4_lineOf_73 : decode cX4_lineOf 73 = .ok (.iinc 4 1, 3) := by decide +kernel
theorem dX4_lineOf_76 : decode cX4_lineOf 76 = .ok (.goto (-32), 3) := by decide +kernel
theorem dX4_lineOf_79 : decode cX4_lineOf 79 = .ok (.iconst (-1), 1) := by decide +kernel
theorem dX4_lineOf_80 : decode cX4_lineOf 80 = .ok (.ireturn, 1) := by decide +kernel
theorem dX4_breakOff_0 : decode cX4_breakOff 0 = .ok (.aload_n 0, 1) := by decide +kernel
theorem dX4_breakOff_1 : decode cX4_breakOff 1 = .ok (.iconst 1, 1) := by decide +kernel
theorem dX4_breakOff_2 : decode cX4_breakOff 2 = .ok (.putfield 27, 3) := by decide +kernel
theorem dX4_breakOff_5 : decode cX4_breakOff 5 = .ok (.aload_n 0, 1) := by decide +kernel
theorem dX4_breakOff_6 : decode cX4_breakOff 6 = .ok (.aload_n 0, 1) := by decide +kernel
theorem dX4_breakOff_7 : decode cX4_breakOff 7 = .ok (.getfield 44, 3) := by decide +kernel
theorem dX4_breakOff_10 : decode cX4_breakOff 10 = .ok (.putfield 31, 3) := by decide +kernel
theorem dX4_breakOff_13 : decode cX4_breakOff 13 = .ok (.return_, 1) := by decide +kernel
theorem dX4_isFull_0 : decode cX4_isFull 0 = .ok (.iload_n 1, 1) := by decide +kernel
theorem dX4_isFull_1 : decode cX4_isFull 1 = .ok (.tableswitch 90 0 4 #[35, 53, 71, 88, 88], 35) := by decide +kernel
theorem dX4_isFull_36 : decode cX4_isFull 36 = .ok (.aload_n 0, 1) := by decide +kernel
theorem dX4_isFull_37 : decode cX4_isFull 37 = .ok (.getfield 12, 3) := by decide +kernel
theorem dX4_isFull_40 : decode cX4_isFull 40 = .ok (.getfield 105, 3) := by decide +kernel
theorem dX4_isFull_43 : decode cX4_isFull 43 = .ok (.bipush 6, 2) := by decide +kernel
theorem dX4_isFull_45 : decode cX4_isFull 45 = .ok (.if_icmp .lt 7, 3) := by decide +kernel
theorem dX4_isFull_48 : decode cX4_isFull 48 = .ok (.iconst 1, 1) := by decide +kernel
theorem dX4_isFull_49 : decode cX4_isFull 49 = .ok (.goto 4, 3) := by decide +kernel
theorem dX4_isFull_52 : decode cX4_isFull 52 = .ok (.iconst 0, 1) := by decide +kernel
theorem dX4_isFull_53 : decode cX4_isFull 53 = .ok (.ireturn, 1) := by decide +kernel
theorem dX4_isFull_54 : decode cX4_isFull 54 = .ok (.aload_n 0, 1) := by decide +kernel
theorem dX4_isFull_55 : decode cX4_isFull 55 = .ok (.getfield 12, 3) := by decide +kernel
theorem dX4_isFull_58 : decode cX4_isFull 58 = .ok (.getfield 108, 3) := by decide +kernel
theorem dX4_isFull_61 : decode cX4_isFull 61 = .ok (.bipush 8, 2) := by decide +kernel
theorem dX4_isFull_63 : decode cX4_isFull 63 = .ok (.if_icmp .lt 7, 3) := by decide +kernel
theorem dX4_isFull_66 : decode cX4_isFull 66 = .ok (.iconst 1, 1) := by decide +kernel
theorem dX4_isFull_67 : decode cX4_isFull 67 = .ok (.goto 4, 3) := by decide +kernel
theorem dX4_isFull_70 : decode cX4_isFull 70 = .ok (.iconst 0, 1) := by decide +kernel
theorem dX4_isFull_71 : decode cX4_isFull 71 = .ok (.ireturn, 1) := by decide +kernel
theorem dX4_isFull_72 : decode cX4_isFull 72 = .ok (.aload_n 0, 1) := by decide +kernel
theorem dX4_isFull_73 : decode cX4_isFull 73 = .ok (.getfield 12, 3) := by decide +kernel
theorem dX4_isFull_76 : decode cX4_isFull 76 = .ok (.getfield 111, 3) := by decide +kernel
theorem dX4_isFull_79 : decode cX4_isFull 79 = .ok (.iconst 5, 1) := by decide +kernel
theorem dX4_isFull_80 : decode cX4_isFull 80 = .ok (.if_icmp .lt 7, 3) := by decide +kernel
theorem dX4_isFull_83 : decode cX4_isFull 83 = .ok (.iconst 1, 1) := by decide +kernel
theorem dX4_isFull_84 : decode cX4_isFull 84 = .ok (.goto 4, 3) := by decide +kernel
theorem dX4_isFull_87 : decode cX4_isFull 87 = .ok (.iconst 0, 1) := by decide +kernel
theorem dX4_isFull_88 : decode cX4_isFull 88 = .ok (.ireturn, 1) := by decide +kernel
theorem dX4_isFull_89 : decode cX4_isFull 89 = .ok (.iconst 0, 1) := by decide +kernel
theorem dX4_isFull_90 : decode cX4_isFull 90 = .ok (.ireturn, 1) := by decide +kernel
theorem dX4_isFull_91 : decode cX4_isFull 91 = .ok (.aload_n 0, 1) := by decide +kernel
theorem dX4_isFull_92 : decode cX4_isFull 92 = .ok (.getfield 23, 3) := by decide +kernel
theorem dX4_isFull_95 : decode cX4_isFull 95 = .ok (.getfield 60, 3) := by decide +kernel
theorem dX4_isFull_98 : decode cX4_isFull 98 = .ok (.iload_n 2, 1) := by decide +kernel
theorem dX4_isFull_99 : decode cX4_isFull 99 = .ok (.iconst 1, 1) := by decide +kernel
theorem dX4_isFull_100 : decode cX4_isFull 100 = .ok (.if_icmp .ne 8, 3) := by decide +kernel
theorem dX4_isFull_103 : decode cX4_isFull 103 = .ok (.bipush 40, 2) := by decide +kernel
theorem dX4_isFull_105 : decode cX4_isFull 105 = .ok (.goto 5, 3) := by decide +kernel
theorem dX4_isFull_108 : decode cX4_isFull 108 = .ok (.bipush 8, 2) := by decide +kernel
theorem dX4_isFull_110 : decode cX4_isFull 110 = .ok (.if_icmp .lt 7, 3) := by decide +kernel
theorem dX4_isFull_113 : decode cX4_isFull 113 = .ok (.iconst 1, 1) := by decide +kernel
theorem dX4_isFull_114 : decode cX4_isFull 114 = .ok (.goto 4, 3) := by decide +kernel
theorem dX4_isFull_117 : decode cX4_isFull 117 = .ok (.iconst 0, 1) := by decide +kernel
theorem dX4_isFull_118 : decode cX4_isFull 118 = .ok (.ireturn, 1) := by decide +kernel
theorem dX4_blame_0 : decode cX4_blame 0 = .ok (.aload_n 0, 1) := by decide +kernel
theorem dX4_blame_1 : decode cX4_blame 1 = .ok (.getfield 27, 3) := by decide +kernel
theorem dX4_blame_4 : decode cX4_blame 4 = .ok (.ifCond .ne 13, 3) := by decide +kernel
theorem dX4_blame_7 : decode cX4_blame 7 = .ok (.aload_n 0, 1) := by decide +kernel
theorem dX4_blame_8 : decode cX4_blame 8 = .ok (.iload_n 1, 1) := by decide +kernel
theorem dX4_blame_9 : decode cX4_blame 9 = .ok (.putfield 27, 3) := by decide +kernel
theorem dX4_blame_12 : decode cX4_blame 12 = .ok (.aload_n 0, 1) := by decide +kernel
theorem dX4_blame_13 : decode cX4_blame 13 = .ok (.iload_n 2, 1) := by decide +kernel
theorem dX4_blame_14 : decode cX4_blame 14 = .ok (.putfield 31, 3) := by decide +kernel
theorem dX4_blame_17 : decode cX4_blame 17 = .ok (.return_, 1) := by decide +kernel
theorem dX4_canBe_0 : decode cX4_canBe 0 = .ok (.aload_n 0, 1) := by decide +kernel
theorem dX4_canBe_1 : decode cX4_canBe 1 = .ok (.getfield 53, 3) := by decide +kernel
theorem dX4_canBe_4 : decode cX4_canBe 4 = .ok (.iload_n 2, 1) := by decide +kernel
theorem dX4_canBe_5 : decode cX4_canBe 5 = .ok (.invokestatic 89, 3) := by decide +kernel
theorem dX4_canBe_8 : decode cX4_canBe 8 = .ok (.istore_n 3, 1) := by decide +kernel
theorem dX4_canBe_9 : decode cX4_canBe 9 = .ok (.iload_n 1, 1) := by decide +kernel
theorem dX4_canBe_10 : decode cX4_canBe 10 = .ok (.iconst 2, 1) := by decide +kernel
theorem dX4_canBe_11 : decode cX4_canBe 11 = .ok (.if_icmp .ne 22, 3) := by decide +kernel
theorem dX4_canBe_14 : decode cX4_canBe 14 = .ok (.iload_n 2, 1) := by decide +kernel
theorem dX4_canBe_15 : decode cX4_canBe 15 = .ok (.iconst 1, 1) := by decide +kernel
theorem dX4_canBe_16 : decode cX4_canBe 16 = .ok (.if_icmp .ne 17, 3) := by decide +kernel
theorem dX4_canBe_19 : decode cX4_canBe 19 = .ok (.iload_n 3, 1) := by decide +kernel
theorem dX4_canBe_20 : decode cX4_canBe 20 = .ok (.aload_n 0, 1) := by decide +kernel
theorem dX4_canBe_21 : decode cX4_canBe 21 = .ok (.getfield 53, 3) := by decide +kernel
theorem dX4_canBe_24 : decode cX4_canBe 24 = .ok (.iconst 0, 1) := by decide +kernel
theorem dX4_canBe_25 : decode cX4_canBe 25 = .ok (.iaload, 1) := by decide +kernel
theorem dX4_canBe_26 : decode cX4_canBe 26 = .ok (.if_icmp .ge 7, 3) := by decide +kernel
theorem dX4_canBe_29 : decode cX4_canBe 29 = .ok (.iconst 1, 1) := by decide +kernel
theorem dX4_canBe_30 : decode cX4_canBe 30 = .ok (.goto 4, 3) := by decide +kernel
theorem dX4_canBe_33 : decode cX4_canBe 33 = .ok (.iconst 0, 1) := by decide +kernel
theorem dX4_canBe_34 : decode cX4_canBe 34 = .ok (.istore 4, 2) := by decide +kernel
theorem dX4_canBe_36 : decode cX4_canBe 36 = .ok (.iload 4, 2) := by decide +kernel
theorem dX4_canBe_38 : decode cX4_canBe 38 = .ok (.ifCond .ne 37, 3) := by decide +kernel
theorem dX4_canBe_41 : decode cX4_canBe 41 = .ok (.iload_n 3, 1) := by decide +kernel
theorem dX4_canBe_42 : decode cX4_canBe 42 = .ok (.getstatic 99, 3) := by decide +kernel
theorem dX4_canBe_45 : decode cX4_canBe 45 = .ok (.iload_n 1, 1) := by decide +kernel
theorem dX4_canBe_46 : decode cX4_canBe 46 = .ok (.iconst 4, 1) := by decide +kernel
theorem dX4_canBe_47 : decode cX4_canBe 47 = .ok (.imul, 1) := by decide +kernel
theorem dX4_canBe_48 : decode cX4_canBe 48 = .ok (.iload_n 2, 1) := by decide +kernel
theorem dX4_canBe_49 : decode cX4_canBe 49 = .ok (.iadd, 1) := by decide +kernel
theorem dX4_canBe_50 : decode cX4_canBe 50 = .ok (.invokestatic 89, 3) := by decide +kernel
theorem dX4_canBe_53 : decode cX4_canBe 53 = .ok (.if_icmp .lt 22, 3) := by decide +kernel
theorem dX4_canBe_56 : decode cX4_canBe 56 = .ok (.iload_n 3, 1) := by decide +kernel
theorem dX4_canBe_57 : decode cX4_canBe 57 = .ok (.getstatic 102, 3) := by decide +kernel
theorem dX4_canBe_60 : decode cX4_canBe 60 = .ok (.iload_n 1, 1) := by decide +kernel
theorem dX4_canBe_61 : decode cX4_canBe 61 = .ok (.iconst 4, 1) := by decide +kernel
theorem dX4_canBe_62 : decode cX4_canBe 62 = .ok (.imul, 1) := by decide +kernel
theorem dX4_canBe_63 : decode cX4_canBe 63 = .ok (.iload_n 2, 1) := by decide +kernel
theorem dX4_canBe_64 : decode cX4_canBe 64 = .ok (.iadd, 1) := by decide +kernel
theorem dX4_canBe_65 : decode cX4_canBe 65 = .ok (.invokestatic 89, 3) := by decide +kernel
theorem dX4_canBe_68 : decode cX4_canBe 68 = .ok (.if_icmp .gt 7, 3) := by decide +kernel
theorem dX4_canBe_71 : decode cX4_canBe 71 = .ok (.iconst 1, 1) := by decide +kernel
theorem dX4_canBe_72 : decode cX4_canBe 72 = .ok (.goto 4, 3) := by decide +kernel
theorem dX4_canBe_75 : decode cX4_canBe 75 = .ok (.iconst 0, 1) := by decide +kernel
theorem dX4_canBe_76 : decode cX4_canBe 76 = .ok (.ireturn, 1) := by decide +kernel
theorem dX4_keepLine_0 : decode cX4_keepLine 0 = .ok (.iload_n 1, 1) := by decide +kernel
theorem dX4_keepLine_1 : decode cX4_keepLine 1 = .ok (.tableswitch 173 0 4 #[35, 57, 91, 119, 135], 35) := by decide +kernel
theorem dX4_keepLine_36 : decode cX4_keepLine 36 = .ok (.aload_n 0, 1) := by decide +kernel
theorem dX4_keepLine_37 : decode cX4_keepLine 37 = .ok (.getfield 12, 3) := by decide +kernel
theorem dX4_keepLine_40 : decode cX4_keepLine 40 = .ok (.aload_n 0, 1) := by decide +kernel
theorem dX4_keepLine_41 : decode cX4_keepLine 41 = .ok (.getfield 53, 3) := by decide +kernel
theorem dX4_keepLine_44 : decode cX4_keepLine 44 = .ok (.iconst 0, 1) := by decide +kernel
theorem dX4_keepLine_45 : decode cX4_keepLine 45 = .ok (.iaload, 1) := by decide +kernel
theorem dX4_keepLine_46 : decode cX4_keepLine 46 = .ok (.aload_n 0, 1) := by decide +kernel
theorem dX4_keepLine_47 : decode cX4_keepLine 47 = .ok (.getfield 53, 3) := by decide +kernel
theorem dX4_keepLine_50 : decode cX4_keepLine 50 = .ok (.iconst 1, 1) := by decide +kernel
theorem dX4_keepLine_51 : decode cX4_keepLine 51 = .ok (.iaload, 1) := by decide +kernel
theorem dX4_keepLine_52 : decode cX4_keepLine 52 = .ok (.invokevirtual 114, 3) := by decide +kernel
theorem dX4_keepLine_55 : decode cX4_keepLine 55 = .ok (.goto 162, 3) := by decide +kernel
theorem dX4_keepLine_58 : decode cX4_keepLine 58 = .ok (.aload_n 0, 1) := by decide +kernel
theorem dX4_keepLine_59 : decode cX4_keepLine 59 = .ok (.getfield 12, 3) := by decide +kernel
theorem dX4_keepLine_62 : decode cX4_keepLine 62 = .ok (.aload_n 0, 1) := by decide +kernel
theorem dX4_keepLine_63 : decode cX4_keepLine 63 = .ok (.getfield 53, 3) := by decide +kernel
theorem dX4_keepLine_66 : decode cX4_keepLine 66 = .ok (.iconst 0, 1) := by decide +kernel
theorem dX4_keepLine_67 : decode cX4_keepLine 67 = .ok (.iaload, 1) := by decide +kernel
theorem dX4_keepLine_68 : decode cX4_keepLine 68 = .ok (.aload_n 0, 1) := by decide +kernel
theorem dX4_keepLine_69 : decode cX4_keepLine 69 = .ok (.getfield 53, 3) := by decide +kernel
theorem dX4_keepLine_72 : decode cX4_keepLine 72 = .ok (.iconst 1, 1) := by decide +kernel
theorem dX4_keepLine_73 : decode cX4_keepLine 73 = .ok (.iaload, 1) := by decide +kernel
theorem dX4_keepLine_74 : decode cX4_keepLine 74 = .ok (.aload_n 0, 1) := by decide +kernel
theorem dX4_keepLine_75 : decode cX4_keepLine 75 = .ok (.getfield 53, 3) := by decide +kernel
theorem dX4_keepLine_78 : decode cX4_keepLine 78 = .ok (.iconst 2, 1) := by decide +kernel
theorem dX4_keepLine_79 : decode cX4_keepLine 79 = .ok (.iaload, 1) := by decide +kernel
theorem dX4_keepLine_80 : decode cX4_keepLine 80 = .ok (.aload_n 0, 1) := by decide +kernel
theorem dX4_keepLine_81 : decode cX4_keepLine 81 = .ok (.getfield 53, 3) := by decide +kernel
theorem dX4_keepLine_84 : decode cX4_keepLine 84 = .ok (.iconst 3, 1) := by decide +kernel
theorem dX4_keepLine_85 : decode cX4_keepLine 85 = .ok (.iaload, 1) := by decide +kernel
theorem dX4_keepLine_86 : decode cX4_keepLine 86 = .ok (.invokevirtual 117, 3) := by decide +kernel
theorem dX4_keepLine_89 : decode cX4_keepLine 89 = .ok (.goto 128, 3) := by decide +kernel
theorem dX4_keepLine_92 : decode cX4_keepLine 92 = .ok (.aload_n 0, 1) := by decide +kernel
theorem dX4_keepLine_93 : decode cX4_keepLine 93 = .ok (.getfield 12, 3) := by decide +kernel
theorem dX4_keepLine_96 : decode cX4_keepLine 96 = .ok (.aload_n 0, 1) := by decide +kernel
theorem dX4_keepLine_97 : decode cX4_keepLine 97 = .ok (.getfield 53, 3) := by decide +kernel
theorem dX4_keepLine_100 : decode cX4_keepLine 100 = .ok (.iconst 0, 1) := by decide +kernel
theorem dX4_keepLine_101 : decode cX4_keepLine 101 = .ok (.iaload, 1) := by decide +kernel
theorem dX4_keepLine_102 : decode cX4_keepLine 102 = .ok (.aload_n 0, 1) := by decide +kernel
theorem dX4_keepLine_103 : decode cX4_keepLine 103 = .ok (.getfield 53, 3) := by decide +kernel
theorem dX4_keepLine_106 : decode cX4_keepLine 106 = .ok (.iconst 1, 1) := by decide +kernel
theorem dX4_keepLine_107 : decode cX4_keepLine 107 = .ok (.iaload, 1) := by decide +kernel
theorem dX4_keepLine_108 : decode cX4_keepLine 108 = .ok (.aload_n 0, 1) := by decide +kernel
theorem dX4_keepLine_109 : decode cX4_keepLine 109 = .ok (.getfield 53, 3) := by decide +kernel
theorem dX4_keepLine_112 : decode cX4_keepLine 112 = .ok (.iconst 2, 1) := by decide +kernel
theorem dX4_keepLine_113 : decode cX4_keepLine 113 = .ok (.iaload, 1) := by decide +kernel
theorem dX4_keepLine_114 : decode cX4_keepLine 114 = .ok (.invokevirtual 121, 3) := by decide +kernel
theorem dX4_keepLine_117 : decode cX4_keepLine 117 = .ok (.goto 100, 3) := by decide +kernel
theorem dX4_keepLine_120 : decode cX4_keepLine 120 = .ok (.aload_n 0, 1) := by decide +kernel
theorem dX4_keepLine_121 : decode cX4_keepLine 121 = .ok (.getfield 12, 3) := by decide +kernel
theorem dX4_keepLine_124 : decode cX4_keepLine 124 = .ok (.aload_n 0, 1) := by decide +kernel
theorem dX4_keepLine_125 : decode cX4_keepLine 125 = .ok (.getfield 53, 3) := by decide +kernel
theorem dX4_keepLine_128 : decode cX4_keepLine 128 = .ok (.iconst 0, 1) := by decide +kernel
theorem dX4_keepLine_129 : decode cX4_keepLine 129 = .ok (.iaload, 1) := by decide +kernel
theorem dX4_keepLine_130 : decode cX4_keepLine 130 = .ok (.putfield 125, 3) := by decide +kernel
theorem dX4_keepLine_133 : decode cX4_keepLine 133 = .ok (.goto 84, 3) := by decide +kernel
theorem dX4_keepLine_136 : decode cX4_keepLine 136 = .ok (.aload_n 0, 1) := by decide +kernel
theorem dX4_keepLine_137 : decode cX4_keepLine 137 = .ok (.getfield 12, 3) := by decide +kernel
theorem dX4_keepLine_140 : decode cX4_keepLine 140 = .ok (.dup, 1) := by decide +kernel
theorem dX4_keepLine_141 : decode cX4_keepLine 141 = .ok (.getfield 128, 3) := by decide +kernel
theorem dX4_keepLine_144 : decode cX4_keepLine 144 = .ok (.aload_n 0, 1) := by decide +kernel
theorem dX4_keepLine_145 : decode cX4_keepLine 145 = .ok (.getfield 53, 3) := by decide +kernel
theorem dX4_keepLine_148 : decode cX4_keepLine 148 = .ok (.iconst 0, 1) := by decide +kernel
theorem dX4_keepLine_149 : decode cX4_keepLine 149 = .ok (.iaload, 1) := by decide +kernel
theorem dX4_keepLine_150 : decode cX4_keepLine 150 = .ok (.bipush 8, 2) := by decide +kernel
theorem dX4_keepLine_152 : decode cX4_keepLine 152 = .ok (.if_icmp .ge 14, 3) := by decide +kernel
theorem dX4_keepLine_155 : decode cX4_keepLine 155 = .ok (.iconst 1, 1) := by decide +kernel
theorem dX4_keepLine_156 : decode cX4_keepLine 156 = .ok (.aload_n 0, 1) := by decide +kernel
theorem dX4_keepLine_157 : decode cX4_keepLine 157 = .ok (.getfield 53, 3) := by decide +kernel
theorem dX4_keepLine_160 : decode cX4_keepLine 160 = .ok (.iconst 0, 1) := by decide +kernel
theorem dX4_keepLine_161 : decode cX4_keepLine 161 = .ok (.iaload, 1) := by decide +kernel
theorem dX4_keepLine_162 : decode cX4_keepLine 162 = .ok (.ishl, 1) := by decide +kernel
theorem dX4_keepLine_163 : decode cX4_keepLine 163 = .ok (.goto 4, 3) := by decide +kernel
theorem dX4_keepLine_166 : decode cX4_keepLine 166 = .ok (.iconst 0, 1) := by decide +kernel
theorem dX4_keepLine_167 : decode cX4_keepLine 167 = .ok (.ior, 1) := by decide +kernel
theorem dX4_keepLine_168 : decode cX4_keepLine 168 = .ok (.putfield 128, 3) := by decide +kernel
theorem dX4_keepLine_171 : decode cX4_keepLine 171 = .ok (.goto 46, 3) := by decide +kernel
theorem dX4_keepLine_174 : decode cX4_keepLine 174 = .ok (.iload_n 1, 1) := by decide +kernel
theorem dX4_keepLine_175 : decode cX4_keepLine 175 = .ok (.iload_n 1, 1) := by decide +kernel
theorem dX4_keepLine_176 : decode cX4_keepLine 176 = .ok (.bipush 10, 2) := by decide +kernel
theorem dX4_keepLine_178 : decode cX4_keepLine 178 = .ok (.if_icmp .ge 7, 3) := by decide +kernel
theorem dX4_keepLine_181 : decode cX4_keepLine 181 = .ok (.iconst 5, 1) := by decide +kernel
theorem dX4_keepLine_182 : decode cX4_keepLine 182 = .ok (.goto 5, 3) := by decide +kernel
theorem dX4_keepLine_185 : decode cX4_keepLine 185 = .ok (.bipush 10, 2) := by decide +kernel
theorem dX4_keepLine_187 : decode cX4_keepLine 187 = .ok (.isub, 1) := by decide +kernel
theorem dX4_keepLine_188 : decode cX4_keepLine 188 = .ok (.istore_n 2, 1) := by decide +kernel
theorem dX4_keepLine_189 : decode cX4_keepLine 189 = .ok (.aload_n 0, 1) := by decide +kernel
theorem dX4_keepLine_190 : decode cX4_keepLine 190 = .ok (.getfield 23, 3) := by decide +kernel
theorem dX4_keepLine_193 : decode cX4_keepLine 193 = .ok (.iload_n 2, 1) := by decide +kernel
theorem dX4_keepLine_194 : decode cX4_keepLine 194 = .ok (.getstatic 86, 3) := by decide +kernel
theorem dX4_keepLine_197 : decode cX4_keepLine 197 = .ok (.iload_n 1, 1) := by decide +kernel
theorem dX4_keepLine_198 : decode cX4_keepLine 198 = .ok (.invokestatic 89, 3) := by decide +kernel
theorem dX4_keepLine_201 : decode cX4_keepLine 201 = .ok (.ifCond .ne 7, 3) := by decide +kernel
theorem dX4_keepLine_204 : decode cX4_keepLine 204 = .ok (.iconst (-1), 1) := by decide +kernel
theorem dX4_keepLine_205 : decode cX4_keepLine 205 = .ok (.goto 9, 3) := by decide +kernel
theorem dX4_keepLine_208 : decode cX4_keepLine 208 = .ok (.aload_n 0, 1) := by decide +kernel
theorem dX4_keepLine_209 : decode cX4_keepLine 209 = .ok (.getfield 53, 3) := by decide +kernel
theorem dX4_keepLine_212 : decode cX4_keepLine 212 = .ok (.iconst 0, 1) := by decide +kernel
theorem dX4_keepLine_213 : decode cX4_keepLine 213 = .ok (.iaload, 1) := by decide +kernel
theorem dX4_keepLine_214 : decode cX4_keepLine 214 = .ok (.invokevirtual 131, 3) := by decide +kernel
theorem dX4_keepLine_217 : decode cX4_keepLine 217 = .ok (.return_, 1) := by decide +kernel
theorem dX4_readLine_0 : decode cX4_readLine 0 = .ok (.aload_n 0, 1) := by decide +kernel
theorem dX4_readLine_1 : decode cX4_readLine 1 = .ok (.iload_n 1, 1) := by decide +kernel
theorem dX4_readLine_2 : decode cX4_readLine 2 = .ok (.invokevirtual 75, 3) := by decide +kernel
theorem dX4_readLine_5 : decode cX4_readLine 5 = .ok (.istore_n 2, 1) := by decide +kernel
theorem dX4_readLine_6 : decode cX4_readLine 6 = .ok (.iload_n 2, 1) := by decide +kernel
theorem dX4_readLine_7 : decode cX4_readLine 7 = .ok (.iconst (-1), 1) := by decide +kernel
theorem dX4_readLine_8 : decode cX4_readLine 8 = .ok (.if_icmp .ne 8, 3) := by decide +kernel
theorem dX4_readLine_11 : decode cX4_readLine 11 = .ok (.aload_n 0, 1) := by decide +kernel
theorem dX4_readLine_12 : decode cX4_readLine 12 = .ok (.invokevirtual 79, 3) := by decide +kernel
theorem dX4_readLine_15 : decode cX4_readLine 15 = .ok (.return_, 1) := by decide +kernel
theorem dX4_readLine_16 : decode cX4_readLine 16 = .ok (.aload_n 0, 1) := by decide +kernel
theorem dX4_readLine_17 : decode cX4_readLine 17 = .ok (.iload_n 2, 1) := by decide +kernel
theorem dX4_readLine_18 : decode cX4_readLine 18 = .ok (.iload_n 1, 1) := by decide +kernel
theorem dX4_readLine_19 : decode cX4_readLine 19 = .ok (.invokevirtual 82, 3) := by decide +kernel
theorem dX4_readLine_22 : decode cX4_readLine 22 = .ok (.ifCond .eq 12, 3) := by decide +kernel
theorem dX4_readLine_25 : decode cX4_readLine 25 = .ok (.aload_n 0, 1) := by decide +kernel
theorem dX4_readLine_26 : decode cX4_readLine 26 = .ok (.iconst 3, 1) := by decide +kernel
theorem dX4_readLine_27 : decode cX4_readLine 27 = .ok (.aload_n 0, 1) := by decide +kernel
theorem dX4_readLine_28 : decode cX4_readLine 28 = .ok (.getfield 44, 3) := by decide +kernel
theorem dX4_readLine_31 : decode cX4_readLine 31 = .ok (.invokevirtual 71, 3) := by decide +kernel
theorem dX4_readLine_34 : decode cX4_readLine 34 = .ok (.aload_n 0, 1) := by decide +kernel
theorem dX4_readLine_35 : decode cX4_readLine 35 = .ok (.invokevirtual 61, 3) := by decide +kernel
theorem dX4_readLine_38 : decode cX4_readLine 38 = .ok (.iconst 0, 1) := by decide +kernel
theorem dX4_readLine_39 : decode cX4_readLine 39 = .ok (.istore_n 3, 1) := by decide +kernel
theorem dX4_readLine_40 : decode cX4_readLine 40 = .ok (.iload_n 3, 1) := by decide +kernel
theorem dX4_readLine_41 : decode cX4_readLine 41 = .ok (.getstatic 86, 3) := by decide +kernel
theorem dX4_readLine_44 : decode cX4_readLine 44 = .ok (.iload_n 2, 1) := by decide +kernel
theorem dX4_readLine_45 : decode cX4_readLine 45 = .ok (.invokestatic 89, 3) := by decide +kernel
theorem dX4_readLine_48 : decode cX4_readLine 48 = .ok (.if_icmp .ge 59, 3) := by decide +kernel
theorem dX4_readLine_51 : decode cX4_readLine 51 = .ok (.iload_n 3, 1) := by decide +kernel
theorem dX4_readLine_52 : decode cX4_readLine 52 = .ok (.iconst 4, 1) := by decide +kernel
theorem dX4_readLine_53 : decode cX4_readLine 53 = .ok (.if_icmp .ge 54, 3) := by decide +kernel
theorem dX4_readLine_56 : decode cX4_readLine 56 = .ok (.aload_n 0, 1) := by decide +kernel
theorem dX4_readLine_57 : decode cX4_readLine 57 = .ok (.getfield 41, 3) := by decide +kernel
theorem dX4_readLine_60 : decode cX4_readLine 60 = .ok (.iconst 2, 1) := by decide +kernel
theorem dX4_readLine_61 : decode cX4_readLine 61 = .ok (.if_icmp .eq 8, 3) := by decide +kernel
theorem dX4_readLine_64 : decode cX4_readLine 64 = .ok (.aload_n 0, 1) := by decide +kernel
theorem dX4_readLine_65 : decode cX4_readLine 65 = .ok (.invokevirtual 79, 3) := by decide +kernel
theorem dX4_readLine_68 : decode cX4_readLine 68 = .ok (.return_, 1) := by decide +kernel
theorem dX4_readLine_69 : decode cX4_readLine 69 = .ok (.aload_n 0, 1) := by decide +kernel
theorem dX4_readLine_70 : decode cX4_readLine 70 = .ok (.getfield 53, 3) := by decide +kernel
theorem dX4_readLine_73 : decode cX4_readLine 73 = .ok (.iload_n 3, 1) := by decide +kernel
theorem dX4_readLine_74 : decode cX4_readLine 74 = .ok (.aload_n 0, 1) := by decide +kernel
theorem dX4_readLine_75 : decode cX4_readLine 75 = .ok (.getfield 50, 3) := by decide +kernel
theorem dX4_readLine_78 : decode cX4_readLine 78 = .ok (.iastore, 1) := by decide +kernel
theorem dX4_readLine_79 : decode cX4_readLine 79 = .ok (.aload_n 0, 1) := by decide +kernel
theorem dX4_readLine_80 : decode cX4_readLine 80 = .ok (.iload_n 2, 1) := by decide +kernel
theorem dX4_readLine_81 : decode cX4_readLine 81 = .ok (.iload_n 3, 1) := by decide +kernel
theorem dX4_readLine_82 : decode cX4_readLine 82 = .ok (.invokevirtual 93, 3) := by decide +kernel
theorem dX4_readLine_85 : decode cX4_readLine 85 = .ok (.ifCond .ne 12, 3) := by decide +kernel
theorem dX4_readLine_88 : decode cX4_readLine 88 = .ok (.aload_n 0, 1) := by decide +kernel
theorem dX4_readLine_89 : decode cX4_readLine 89 = .ok (.iconst 2, 1) := by decide +kernel
theorem dX4_readLine_90 : decode cX4_readLine 90 = .ok (.aload_n 0, 1) := by decide +kernel
theorem dX4_readLine_91 : decode cX4_readLine 91 = .ok (.getfield 44, 3) := by decide +kernel
theorem dX4_readLine_94 : decode cX4_readLine 94 = .ok (.invokevirtual 71, 3) := by decide +kernel
theorem dX4_readLine_97 : decode cX4_readLine 97 = .ok (.aload_n 0, 1) := by decide +kernel
theorem dX4_readLine_98 : decode cX4_readLine 98 = .ok (.invokevirtual 61, 3) := by decide +kernel
theorem dX4_readLine_101 : decode cX4_readLine 101 = .ok (.iinc 3 1, 3) := by decide +kernel
theorem dX4_readLine_104 : decode cX4_readLine 104 = .ok (.goto (-64), 3) := by decide +kernel
theorem dX4_readLine_107 : decode cX4_readLine 107 = .ok (.aload_n 0, 1) := by decide +kernel
theorem dX4_readLine_108 : decode cX4_readLine 108 = .ok (.getfield 41, 3) := by decide +kernel
theorem dX4_readLine_111 : decode cX4_readLine 111 = .ok (.iconst 3, 1) := by decide +kernel
theorem dX4_readLine_112 : decode cX4_readLine 112 = .ok (.if_icmp .eq 8, 3) := by decide +kernel
theorem dX4_readLine_115 : decode cX4_readLine 115 = .ok (.aload_n 0, 1) := by decide +kernel
theorem dX4_readLine_116 : decode cX4_readLine 116 = .ok (.invokevirtual 79, 3) := by decide +kernel
theorem dX4_readLine_119 : decode cX4_readLine 119 = .ok (.return_, 1) := by decide +kernel
theorem dX4_readLine_120 : decode cX4_readLine 120 = .ok (.aload_n 0, 1) := by decide +kernel
theorem dX4_readLine_121 : decode cX4_readLine 121 = .ok (.invokevirtual 61, 3) := by decide +kernel
theorem dX4_readLine_124 : decode cX4_readLine 124 = .ok (.aload_n 0, 1) := by decide +kernel
theorem dX4_readLine_125 : decode cX4_readLine 125 = .ok (.iload_n 2, 1) := by decide +kernel
theorem dX4_readLine_126 : decode cX4_readLine 126 = .ok (.invokevirtual 96, 3) := by decide +kernel
theorem dX4_readLine_129 : decode cX4_readLine 129 = .ok (.return_, 1) := by decide +kernel
theorem dX4_read_0 : decode cX4_read 0 = .ok (.aload_n 0, 1) := by decide +kernel
theorem dX4_read_1 : decode cX4_read 1 = .ok (.getfield 12, 3) := by decide +kernel
theorem dX4_read_4 : decode cX4_read 4 = .ok (.invokevirtual 57, 3) := by decide +kernel
theorem dX4_read_7 : decode cX4_read 7 = .ok (.aload_n 0, 1) := by decide +kernel
theorem dX4_read_8 : decode cX4_read 8 = .ok (.getfield 23, 3) := by decide +kernel
theorem dX4_read_11 : decode cX4_read 11 = .ok (.iconst 0, 1) := by decide +kernel
theorem dX4_read_12 : decode cX4_read 12 = .ok (.putfield 60, 3) := by decide +kernel
theorem dX4_read_15 : decode cX4_read 15 = .ok (.aload_n 0, 1) := by decide +kernel
theorem dX4_read_16 : decode cX4_read 16 = .ok (.iconst 0, 1) := by decide +kernel
theorem dX4_read_17 : decode cX4_read 17 = .ok (.putfield 27, 3) := by decide +kernel
theorem dX4_read_20 : decode cX4_read 20 = .ok (.aload_n 0, 1) := by decide +kernel
theorem dX4_read_21 : decode cX4_read 21 = .ok (.iconst (-1), 1) := by decide +kernel
theorem dX4_read_22 : decode cX4_read 22 = .ok (.putfield 31, 3) := by decide +kernel
theorem dX4_read_25 : decode cX4_read 25 = .ok (.aload_n 0, 1) := by decide +kernel
theorem dX4_read_26 : decode cX4_read 26 = .ok (.aload_n 1, 1) := by decide +kernel
theorem dX4_read_27 : decode cX4_read 27 = .ok (.putfield 34, 3) := by decide +kernel
theorem dX4_read_30 : decode cX4_read 30 = .ok (.aload_n 0, 1) := by decide +kernel
theorem dX4_read_31 : decode cX4_read 31 = .ok (.iload_n 2, 1) := by decide +kernel
theorem dX4_read_32 : decode cX4_read 32 = .ok (.putfield 38, 3) := by decide +kernel
theorem dX4_read_35 : decode cX4_read 35 = .ok (.aload_n 0, 1) := by decide +kernel
theorem dX4_read_36 : decode cX4_read 36 = .ok (.iconst 0, 1) := by decide +kernel
theorem dX4_read_37 : decode cX4_read 37 = .ok (.putfield 47, 3) := by decide +kernel
theorem dX4_read_40 : decode cX4_read 40 = .ok (.aload_n 0, 1) := by decide +kernel
theorem dX4_read_41 : decode cX4_read 41 = .ok (.invokevirtual 61, 3) := by decide +kernel
theorem dX4_read_44 : decode cX4_read 44 = .ok (.iconst 0, 1) := by decide +kernel
theorem dX4_read_45 : decode cX4_read 45 = .ok (.istore 4, 2) := by decide +kernel
theorem dX4_read_47 : decode cX4_read 47 = .ok (.iload 4, 2) := by decide +kernel
theorem dX4_read_49 : decode cX4_read 49 = .ok (.sipush 600, 3) := by decide +kernel
theorem dX4_read_52 : decode cX4_read 52 = .ok (.if_icmp .gt 29, 3) := by decide +kernel
theorem dX4_read_55 : decode cX4_read 55 = .ok (.aload_n 0, 1) := by decide +kernel
theorem dX4_read_56 : decode cX4_read 56 = .ok (.getfield 41, 3) := by decide +kernel
theorem dX4_read_59 : decode cX4_read 59 = .ok (.ifCond .eq 22, 3) := by decide +kernel
theorem dX4_read_62 : decode cX4_read 62 = .ok (.aload_n 0, 1) := by decide +kernel
theorem dX4_read_63 : decode cX4_read 63 = .ok (.getfield 27, 3) := by decide +kernel
theorem dX4_read_66 : decode cX4_read 66 = .ok (.iconst 1, 1) := by decide +kernel
theorem dX4_read_67 : decode cX4_read 67 = .ok (.if_icmp .eq 14, 3) := by decide +kernel
theorem dX4_read_70 : decode cX4_read 70 = .ok (.aload_n 0, 1) := by decide +kernel
theorem dX4_read_71 : decode cX4_read 71 = .ok (.iload_n 3, 1) := by decide +kernel
theorem dX4_read_72 : decode cX4_read 72 = .ok (.invokevirtual 64, 3) := by decide +kernel
theorem dX4_read_75 : decode cX4_read 75 = .ok (.iinc 4 1, 3) := by decide +kernel
theorem dX4_read_78 : decode cX4_read 78 = .ok (.goto (-31), 3) := by decide +kernel
theorem dX4_read_81 : decode cX4_read 81 = .ok (.aload_n 0, 1) := by decide +kernel
theorem dX4_read_82 : decode cX4_read 82 = .ok (.getfield 27, 3) := by decide +kernel
theorem dX4_read_85 : decode cX4_read 85 = .ok (.ifCond .ne 22, 3) := by decide +kernel
theorem dX4_read_88 : decode cX4_read 88 = .ok (.aload_n 0, 1) := by decide +kernel
theorem dX4_read_89 : decode cX4_read 89 = .ok (.getfield 12, 3) := by decide +kernel
theorem dX4_read_92 : decode cX4_read 92 = .ok (.invokevirtual 67, 3) := by decide +kernel
theorem dX4_read_95 : decode cX4_read 95 = .ok (.ifCond .ne 12, 3) := by decide +kernel
theorem dX4_read_98 : decode cX4_read 98 = .ok (.aload_n 0, 1) := by decide +kernel
theorem dX4_read_99 : decode cX4_read 99 = .ok (.iconst 4, 1) := by decide +kernel
theorem dX4_read_100 : decode cX4_read 100 = .ok (.aload_n 0, 1) := by decide +kernel
theorem dX4_read_101 : decode cX4_read 101 = .ok (.getfield 38, 3) := by decide +kernel
theorem dX4_read_104 : decode cX4_read 104 = .ok (.invokevirtual 71, 3) := by decide +kernel
theorem dX4_read_107 : decode cX4_read 107 = .ok (.return_, 1) := by decide +kernel
