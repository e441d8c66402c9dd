theorem fl_RX10_10 : FL RX10 10 10 0 3 := ⟨RX10, TX10, 10, rfl, uwX10, rfl, by decide, by decide, (uw_t 411 (by decide +kernel) (by decide +kernel))⟩
theorem fl_RX10_16 : FL RX10 16 10 1 41 := ⟨RX10, TX10, 10, rfl, uwX10, rfl, by decide, by decide, (uw_t 412 (by decide +kernel) (by decide +kernel))⟩
theorem fl_RX10_20 : FL RX10 20 10 2 156 := ⟨RX10, TX10, 10, rfl, uwX10, rfl, by decide, by decide, (uw_t 413 (by decide +kernel) (by decide +kernel))⟩
theorem fl_RX10_27 : FL RX10 27 10 3 157 := ⟨RX10, TX10, 10, rfl, uwX10, rfl, by decide, by decide, (uw_t 414 (by decide +kernel) (by decide +kernel))⟩
theorem fl_RX10_34 : FL RX10 34 10 4 172 := ⟨RX10, TX10, 10, rfl, uwX10, rfl, by decide, by decide, (uw_t 415 (by decide +kernel) (by decide +kernel))⟩
theorem fl_RX10_41 : FL RX10 41 10 5 186 := ⟨RX10, TX10, 10, rfl, uwX10, rfl, by decide, by decide, (uw_t 416 (by decide +kernel) (by decide +kernel))⟩
theorem fl_RX10_48 : FL RX10 48 10 6 199 := ⟨RX10, TX10, 10, rfl, uwX10, rfl, by decide, by decide, (uw_t 417 (by decide +kernel) (by decide +kernel))⟩
theorem fl_RX10_55 : FL RX10 55 10 7 211 := ⟨RX10, TX10, 10, rfl, uwX10, rfl, by decide, by decide, (uw_t 418 (by decide +kernel) (by decide +kernel))⟩
theorem fl_RX10_62 : FL RX10 62 10 8 222 := ⟨RX10, TX10, 10, rfl, uwX10, rfl, by decide, by decide, (uw_t 419 (by decide +kernel) (by decide +kernel))⟩
theorem fl_RX10_69 : FL RX10 69 10 9 236 := ⟨RX10, TX10, 10, rfl, uwX10, rfl, by decide, by decide, (uw_t 420 (by decide +kernel) (by decide +kernel))⟩
theorem fl_RX10_73 : FL RX10 73 7 1 0 := ⟨RX7, TX7, 8, rfl, uwX7, rfl, by decide, by decide, (uw_t 159 (by decide +kernel) (by decide +kernel))⟩
theorem fl_RX10_81 : FL RX10 81 7 2 0 := ⟨RX7, TX7, 8, rfl, uwX7, rfl, by decide, by decide, (uw_t 161 (by decide +kernel) (by decide +kernel))⟩
theorem fl_RX10_84 : FL RX10 84 7 3 0 := ⟨RX7, TX7, 8, rfl, uwX7, rfl, by decide, by decide, (uw_t 163 (by decide +kernel) (by decide +kernel))⟩
theorem fl_RX10_91 : FL RX10 91 7 0 3 := ⟨RX7, TX7, 8, rfl, uwX7, rfl, by decide, by decide, (uw_t 157 (by decide +kernel) (by decide +kernel))⟩
theorem fl_RX10_99 : FL RX10 99 4 2 0 := ⟨RX4, TX4, 11, rfl, uwX4, rfl, by decide, by decide, (uw_t 202 (by decide +kernel) (by decide +kernel))⟩
theorem fl_RX10_100 : FL RX10 100 4 3 0 := ⟨RX4, TX4, 11, rfl, uwX4, rfl, by decide, by decide, (uw_t 204 (by decide +kernel) (by decide +kernel))⟩
theorem fl_RX10_101 : FL RX10 101 4 0 3 := ⟨RX4, TX4, 11, rfl, uwX4, rfl, by decide, by decide, (uw_t 198 (by decide +kernel) (by decide +kernel))⟩
theorem fl_RX10_105 : FL RX10 105 4 1 13 := ⟨RX4, TX4, 11, rfl, uwX4, rfl, by decide, by decide, (uw_t 200 (by decide +kernel) (by decide +kernel))⟩
theorem fl_RX10_117 : FL RX10 117 1 0 0 := ⟨RX1, TX1, 14, rfl, uwX1, rfl, by decide, by decide, (uw_t 46 (by decide +kernel) (by decide +kernel))⟩
theorem fl_RX10_122 : FL RX10 122 1 1 0 := ⟨RX1, TX1, 14, rfl, uwX1, rfl, by decide, by decide, (uw_t 51 (by decide +kernel) (by decide +kernel))⟩
theorem fl_RX10_125 : FL RX10 125 1 2 0 := ⟨RX1, TX1, 14, rfl, uwX1, rfl, by decide, by decide, (uw_t 57 (by decide +kernel) (by decide +kernel))⟩
theorem fl_RX10_128 : FL RX10 128 1 3 0 := ⟨RX1, TX1, 14, rfl, uwX1, rfl, by decide, by decide, (uw_t 60 (by decide +kernel) (by decide +kernel))⟩
theorem fl_RX10_131 : FL RX10 131 1 4 0 := ⟨RX1, TX1, 14, rfl, uwX1, rfl, by decide, by decide, (uw_t 65 (by decide +kernel) (by decide +kernel))⟩
theorem fl_RX10_146 : FL RX10 146 6 3 0 := ⟨RX6, TX6, 4, rfl, uwX6, rfl, by decide, by decide, (uw_t 146 (by decide +kernel) (by decide +kernel))⟩
theorem fl_RX10_204 : FL RX10 204 9 5 0 := ⟨RX9, TX9, 6, rfl, uwX9, rfl, by decide, by decide, (uw_t 362 (by decide +kernel) (by decide +kernel))⟩
theorem fl_RX10_207 : FL RX10 207 9 4 0 := ⟨RX9, TX9, 6, rfl, uwX9, rfl, by decide, by decide, (uw_t 360 (by decide +kernel) (by decide +kernel))⟩
theorem fl_RX10_226 : FL RX10 226 2 1 0 := ⟨RX2, TX2, 2, rfl, uwX2, rfl, by decide, by decide, (uw_t 405 (by decide +kernel) (by decide +kernel))⟩
theorem fl_RX10_306 : FL RX10 306 3 16 0 := ⟨RX3, TX3, 19, rfl, uwX3, rfl, by decide, by decide, (uw_t 288 (by decide +kernel) (by decide +kernel))⟩
theorem fl_RX10_312 : FL RX10 312 3 17 0 := ⟨RX3, TX3, 19, rfl, uwX3, rfl, by decide, by decide, (uw_t 290 (by decide +kernel) (by decide +kernel))⟩
theorem fl_RX10_315 : FL RX10 315 3 18 0 := ⟨RX3, TX3, 19, rfl, uwX3, rfl, by decide, by decide, (uw_t 292 (by decide +kernel) (by decide +kernel))⟩
theorem fl_RX10_327 : FL RX10 327 7 4 4 := ⟨RX7, TX7, 8, rfl, uwX7, rfl, by decide, by decide, (uw_t 165 (by decide +kernel) (by decide +kernel))⟩
theorem fl_RX10_335 : FL RX10 335 6 1 3 := ⟨RX6, TX6, 4, rfl, uwX6, rfl, by decide, by decide, (uw_t 137 (by decide +kernel) (by decide +kernel))⟩
theorem fl_RX10_342 : FL RX10 342 6 2 4 := ⟨RX6, TX6, 4, rfl, uwX6, rfl, by decide, by decide, (uw_t 141 (by decide +kernel) (by decide +kernel))⟩
theorem fl_RX10_352 : FL RX10 352 1 9 7 := ⟨RX1, TX1, 14, rfl, uwX1, rfl, by decide, by decide, (uw_t 84 (by decide +kernel) (by decide +kernel))⟩
theorem fl_RX0_12 : FL RX0 12 0 0 1 := ⟨RX0, TX0, 2, rfl, uwX0, rfl, by decide, by decide, (uw_t 340 (by decide +kernel) (by decide +kernel))⟩
theorem fl_RX0_18 : FL RX0 18 0 1 13 := ⟨RX0, TX0, 2, rfl, uwX0, rfl, by decide, by decide, (uw_t 341 (by decide +kernel) (by decide +kernel))⟩
theorem fl_RX0_22 : FL RX0 22 1 9 7 := ⟨RX1, TX1, 14, rfl, uwX1, rfl, by decide, by decide, (uw_t 80 (by decide +kernel) (by decide +kernel))⟩
theorem fl_RX0_37 : FL RX0 37 1 10 8 := ⟨RX1, TX1, 14, rfl, uwX1, rfl, by decide, by decide, (uw_t 86 (by decide +kernel) (by decide +kernel))⟩
theorem fl_RX0_46 : FL RX0 46 1 0 0 := ⟨RX1, TX1, 14, rfl, uwX1, rfl, by decide, by decide, (uw_t 45 (by decide +kernel) (by decide +kernel))⟩
theorem fl_RX0_50 : FL RX0 50 1 6 4 := ⟨RX1, TX1, 14, rfl, uwX1, rfl, by decide, by decide, (uw_t 70 (by decide +kernel) (by decide +kernel))⟩
theorem fl_RX0_68 : FL RX0 68 1 1 0 := ⟨RX1, TX1, 14, rfl, uwX1, rfl, by decide, by decide, (uw_t 52 (by decide +kernel) (by decide +kernel))⟩
theorem fl_RX1_9 : FL RX1 9 1 0 0 := ⟨RX1, TX1, 14, rfl, uwX1, rfl, by decide, by decide, (uw_t 42 (by decide +kernel) (by decide +kernel))⟩
theorem fl_RX1_15 : FL RX1 15 1 1 0 := ⟨RX1, TX1, 14, rfl, uwX1, rfl, by decide, by decide, (uw_t 48 (by decide +kernel) (by decide +kernel))⟩
theorem fl_RX1_18 : FL RX1 18 1 2 0 := ⟨RX1, TX1, 14, rfl, uwX1, rfl, by decide, by decide, (uw_t 54 (by decide +kernel) (by decide +kernel))⟩
theorem fl_RX1_21 : FL RX1 21 1 3 0 := ⟨RX1, TX1, 14, rfl, uwX1, rfl, by decide, by decide, (uw_t 59 (by decide +kernel) (by decide +kernel))⟩
theorem fl_RX1_24 : FL RX1 24 1 4 0 := ⟨RX1, TX1, 14, rfl, uwX1, rfl, by decide, by decide, (uw_t 63 (by decide +kernel) (by decide +kernel))⟩
theorem fl_RX1_27 : FL RX1 27 1 5 3 := ⟨RX1, TX1, 14, rfl, uwX1, rfl, by decide, by decide, (uw_t 67 (by decide +kernel) (by decide +kernel))⟩
theorem fl_RX1_31 : FL RX1 31 1 6 4 := ⟨RX1, TX1, 14, rfl, uwX1, rfl, by decide, by decide, (uw_t 69 (by decide +kernel) (by decide +kernel))⟩
theorem fl_RX1_34 : FL RX1 34 1 7 5 := ⟨RX1, TX1, 14, rfl, uwX1, rfl, by decide, by decide, (uw_t 71 (by decide +kernel) (by decide +kernel))⟩
theorem fl_RX1_37 : FL RX1 37 1 8 6 := ⟨RX1, TX1, 14, rfl, uwX1, rfl, by decide, by decide, (uw_t 75 (by decide +kernel) (by decide +kernel))⟩
theorem fl_RX1_40 : FL RX1 40 1 9 7 := ⟨RX1, TX1, 14, rfl, uwX1, rfl, by decide, by decide, (uw_t 79 (by decide +kernel) (by decide +kernel))⟩
theorem fl_RX1_43 : FL RX1 43 1 10 8 := ⟨RX1, TX1, 14, rfl, uwX1, rfl, by decide, by decide, (uw_t 85 (by decide +kernel) (by decide +kernel))⟩
theorem fl_RX1_46 : FL RX1 46 1 11 9 := ⟨RX1, TX1, 14, rfl, uwX1, rfl, by decide, by decide, (uw_t 87 (by decide +kernel) (by decide +kernel))⟩
theorem fl_RX1_49 : FL RX1 49 1 12 10 := ⟨RX1, TX1, 14, rfl, uwX1, rfl, by decide, by decide, (uw_t 88 (by decide +kernel) (by decide +kernel))⟩
theorem fl_RX1_52 : FL RX1 52 1 13 11 := ⟨RX1, TX1, 14, rfl, uwX1, rfl, by decide, by decide, (uw_t 89 (by decide +kernel) (by decide +kernel))⟩
theorem fl_RX2_9 : FL RX2 9 2 0 3 := ⟨RX2, TX2, 2, rfl, uwX2, rfl, by decide, by decide, (uw_t 403 (by decide +kernel) (by decide +kernel))⟩
theorem fl_RX2_15 : FL RX2 15 2 1 0 := ⟨RX2, TX2, 2, rfl, uwX2, rfl, by decide, by decide, (uw_t 404 (by decide +kernel) (by decide +kernel))⟩
theorem fl_RX2_35 : FL RX2 35 6 3 0 := ⟨RX6, TX6, 4, rfl, uwX6, rfl, by decide, by decide, (uw_t 144 (by decide +kernel) (by decide +kernel))⟩
theorem fl_RX2_40 : FL RX2 40 6 1 3 := ⟨RX6, TX6, 4, rfl, uwX6, rfl, by decide, by decide, (uw_t 135 (by decide +kernel) (by decide +kernel))⟩
theorem fl_RX2_47 : FL RX2 47 6 2 4 := ⟨RX6, TX6, 4, rfl, uwX6, rfl, by decide, by decide, (uw_t 139 (by decide +kernel) (by decide +kernel))⟩
theorem fl_RX2_50 : FL RX2 50 1 0 0 := ⟨RX1, TX1, 14, rfl, uwX1, rfl, by decide, by decide, (uw_t 43 (by decide +kernel) (by decide +kernel))⟩
theorem fl_RX3_12 : FL RX3 12 3 0 1 := ⟨RX3, TX3, 19, rfl, uwX3, rfl, by decide, by decide, (uw_t 271 (by decide +kernel) (by decide +kernel))⟩
theorem fl_RX3_18 : FL RX3 18 3 1 0 := ⟨RX3, TX3, 19, rfl, uwX3, rfl, by decide, by decide, (uw_t 272 (by decide +kernel) (by decide +kernel))⟩
theorem fl_RX3_22 : FL RX3 22 3 2 0 := ⟨RX3, TX3, 19, rfl, uwX3, rfl, by decide, by decide, (uw_t 273 (by decide +kernel) (by decide +kernel))⟩
theorem fl_RX3_25 : FL RX3 25 3 3 0 := ⟨RX3, TX3, 19, rfl, uwX3, rfl, by decide, by decide, (uw_t 274 (by decide +kernel) (by decide +kernel))⟩
theorem fl_RX3_28 : FL RX3 28 3 4 0 := ⟨RX3, TX3, 19, rfl, uwX3, rfl, by decide, by decide, (uw_t 275 (by decide +kernel) (by decide +kernel))⟩
theorem fl_RX3_31 : FL RX3 31 3 5 0 := ⟨RX3, TX3, 19, rfl, uwX3, rfl, by decide, by decide, (uw_t 276 (by decide +kernel) (by decide +kernel))⟩
theorem fl_RX3_34 : FL RX3 34 3 6 0 := ⟨RX3, TX3, 19, rfl, uwX3, rfl, by decide, by decide, (uw_t 277 (by decide +kernel) (by decide +kernel))⟩
theorem fl_RX3_37 : FL RX3 37 3 7 0 := ⟨RX3, TX3, 19, rfl, uwX3, rfl, by decide, by decide, (uw_t 278 (by decide +kernel) (by decide +kernel))⟩
theorem fl_RX3_40 : FL RX3 40 3 8 0 := ⟨RX3, TX3, 19, rfl, uwX3, rfl, by decide, by decide, (uw_t 279 (by decide +kernel) (by decide +kernel))⟩
theorem fl_RX3_43 : FL RX3 43 3 9 0 := ⟨RX3, TX3, 19, rfl, uwX3, rfl, by decide, by decide, (uw_t 280 (by decide +kernel) (by decide +kernel))⟩
theorem fl_RX3_46 : FL RX3 46 3 10 0 := ⟨RX3, TX3, 19, rfl, uwX3, rfl, by decide, by decide, (uw_t 281 (by decide +kernel) (by decide +kernel))⟩
theorem fl_RX3_49 : FL RX3 49 3 11 13 := ⟨RX3, TX3, 19, rfl, uwX3, rfl, by decide, by decide, (uw_t 282 (by decide +kernel) (by decide +kernel))⟩
theorem fl_RX3_53 : FL RX3 53 3 12 14 := ⟨RX3, TX3, 19, rfl, uwX3, rfl, by decide, by decide, (uw_t 283 (by decide +kernel) (by decide +kernel))⟩
theorem fl_RX3_56 : FL RX3 56 3 13 0 := ⟨RX3, TX3, 19, rfl, uwX3, rfl, by decide, by decide, (uw_t 284 (by decide +kernel) (by decide +kernel))⟩
theorem fl_RX3_59 : FL RX3 59 3 14 0 := ⟨RX3, TX3, 19, rfl, uwX3, rfl, by decide, by decide, (uw_t 285 (by decide +kernel) (by decide +kernel))⟩
theorem fl_RX3_62 : FL RX3 62 3 15 0 := ⟨RX3, TX3, 19, rfl, uwX3, rfl, by decide, by decide, (uw_t 286 (by decide +kernel) (by decide +kernel))⟩
theorem fl_RX3_65 : FL RX3 65 3 16 0 := ⟨RX3, TX3, 19, rfl, uwX3, rfl, by decide, by decide, (uw_t 287 (by decide +kernel) (by decide +kernel))⟩
theorem fl_RX3_68 : FL RX3 68 3 17 0 := ⟨RX3, TX3, 19, rfl, uwX3, rfl, by decide, by decide, (uw_t 289 (by decide +kernel) (by decide +kernel))⟩
theorem fl_RX3_71 : FL RX3 71 3 18 0 := ⟨RX3, TX3, 19, rfl, uwX3, rfl, by decide, by decide, (uw_t 291 (by decide +kernel) (by decide +kernel))⟩
theorem fl_RX3_87 : FL RX3 87 1 13 11 := ⟨RX1, TX1, 14, rfl, uwX1, rfl, by decide, by decide, (uw_t 91 (by decide +kernel) (by decide +kernel))⟩
theorem fl_RX3_98 : FL RX3 98 6 3 0 := ⟨RX6, TX6, 4, rfl, uwX6, rfl, by decide, by decide, (uw_t 145 (by decide +kernel) (by decide +kernel))⟩
theorem fl_RX3_103 : FL RX3 103 6 1 3 := ⟨RX6, TX6, 4, rfl, uwX6, rfl, by decide, by decide, (uw_t 136 (by decide +kernel) (by decide +kernel))⟩
theorem fl_RX3_106 : FL RX3 106 6 2 4 := ⟨RX6, TX6, 4, rfl, uwX6, rfl, by decide, by decide, (uw_t 140 (by decide +kernel) (by decide +kernel))⟩
theorem fl_RX3_119 : FL RX3 119 1 2 0 := ⟨RX1, TX1, 14, rfl, uwX1, rfl, by decide, by decide, (uw_t 56 (by decide +kernel) (by decide +kernel))⟩
theorem fl_RX3_130 : FL RX3 130 1 9 7 := ⟨RX1, TX1, 14, rfl, uwX1, rfl, by decide, by decide, (uw_t 82 (by decide +kernel) (by decide +kernel))⟩
theorem fl_RX3_150 : FL RX3 150 1 8 6 := ⟨RX1, TX1, 14, rfl, uwX1, rfl, by decide, by decide, (uw_t 78 (by decide +kernel) (by decide +kernel))⟩
theorem fl_RX3_153 : FL RX3 153 1 7 5 := ⟨RX1, TX1, 14, rfl, uwX1, rfl, by decide, by decide, (uw_t 74 (by decide +kernel) (by decide +kernel))⟩
theorem fl_RX4_12 : FL RX4 12 4 0 3 := ⟨RX4, TX4, 11, rfl, uwX4, rfl, by decide, by decide, (uw_t 197 (by decide +kernel) (by decide +kernel))⟩
theorem fl_RX4_23 : FL RX4 23 4 1 13 := ⟨RX4, TX4, 11, rfl, uwX4, rfl, by decide, by decide, (uw_t 199 (by decide +kernel) (by decide +kernel))⟩
theorem fl_RX4_27 : FL RX4 27 4 2 0 := ⟨RX4, TX4, 11, rfl, uwX4, rfl, by decide, by decide, (uw_t 201 (by decide +kernel) (by decide +kernel))⟩
theorem fl_RX4_31 : FL RX4 31 4 3 0 := ⟨RX4, TX4, 11, rfl, uwX4, rfl, by decide, by decide, (uw_t 203 (by decide +kernel) (by decide +kernel))⟩
theorem fl_RX4_34 : FL RX4 34 4 4 1 := ⟨RX4, TX4, 11, rfl, uwX4, rfl, by decide, by decide, (uw_t 205 (by decide +kernel) (by decide +kernel))⟩
theorem fl_RX4_38 : FL RX4 38 4 5 0 := ⟨RX4, TX4, 11, rfl, uwX4, rfl, by decide, by decide, (uw_t 206 (by decide +kernel) (by decide +kernel))⟩
theorem fl_RX4_41 : FL RX4 41 4 6 0 := ⟨RX4, TX4, 11, rfl, uwX4, rfl, by decide, by decide, (uw_t 207 (by decide +kernel) (by decide +kernel))⟩
theorem fl_RX4_44 : FL RX4 44 4 7 0 := ⟨RX4, TX4, 11, rfl, uwX4, rfl, by decide, by decide, (uw_t 208 (by decide +kernel) (by decide +kernel))⟩
theorem fl_RX4_47 : FL RX4 47 4 8 0 := ⟨RX4, TX4, 11, rfl, uwX4, rfl, by decide, by decide, (uw_t 209 (by decide +kernel) (by decide +kernel))⟩
theorem fl_RX4_50 : FL RX4 50 4 9 0 := ⟨RX4, TX4, 11, rfl, uwX4, rfl, by decide, by decide, (uw_t 210 (by decide +kernel) (by decide +kernel))⟩
theorem fl_RX4_53 : FL RX4 53 4 10 16 := ⟨RX4, TX4, 11, rfl, uwX4, rfl, by decide, by decide, (uw_t 211 (by decide +kernel) (by decide +kernel))⟩
theorem fl_RX4_60 : FL RX4 60 6 3 0 := ⟨RX6, TX6, 4, rfl, uwX6, rfl, by decide, by decide, (uw_t 143 (by decide +kernel) (by decide +kernel))⟩
theorem fl_RX4_105 : FL RX4 105 1 0 0 := ⟨RX1, TX1, 14, rfl, uwX1, rfl, by decide, by decide, (uw_t 47 (by decide +kernel) (by decide +kernel))⟩
theorem fl_RX4_108 : FL RX4 108 1 1 0 := ⟨RX1, TX1, 14, rfl, uwX1, rfl, by decide, by decide, (uw_t 53 (by decide +kernel) (by decide +kernel))⟩
theorem fl_RX4_111 : FL RX4 111 1 2 0 := ⟨RX1, TX1, 14, rfl, uwX1, rfl, by decide, by decide, (uw_t 58 (by decide +kernel) (by decide +kernel))⟩
theorem fl_RX4_125 : FL RX4 125 1 3 0 := ⟨RX1, TX1, 14, rfl, uwX1, rfl, by decide, by decide, (uw_t 62 (by decide +kernel) (by decide +kernel))⟩
theorem fl_RX4_128 : FL RX4 128 1 4 0 := ⟨RX1, TX1, 14, rfl, uwX1, rfl, by decide, by decide, (uw_t 66 (by decide +kernel) (by decide +kernel))⟩
theorem fl_RX5_12 : FL RX5 12 5 0 1 := ⟨RX5, TX5, 6, rfl, uwX5, rfl, by decide, by decide, (uw_t 244 (by decide +kernel) (by decide +kernel))⟩
theorem fl_RX5_18 : FL RX5 18 5 1 0 := ⟨RX5, TX5, 6, rfl, uwX5, rfl, by decide, by decide, (uw_t 245 (by decide +kernel) (by decide +kernel))⟩
theorem fl_RX5_22 : FL RX5 22 5 2 0 := ⟨RX5, TX5, 6, rfl, uwX5, rfl, by decide, by decide, (uw_t 246 (by decide +kernel) (by decide +kernel))⟩
theorem fl_RX5_25 : FL RX5 25 5 3 13 := ⟨RX5, TX5, 6, rfl, uwX5, rfl, by decide, by decide, (uw_t 247 (by decide +kernel) (by decide +kernel))⟩
theorem fl_RX5_29 : FL RX5 29 5 4 14 := ⟨RX5, TX5, 6, rfl, uwX5, rfl, by decide, by decide, (uw_t 248 (by decide +kernel) (by decide +kernel))⟩
theorem fl_RX5_32 : FL RX5 32 5 5 15 := ⟨RX5, TX5, 6, rfl, uwX5, rfl, by decide, by decide, (uw_t 249 (by decide +kernel) (by decide +kernel))⟩
theorem fl_RX5_35 : FL RX5 35 1 2 0 := ⟨RX1, TX1, 14, rfl, uwX1, rfl, by decide, by decide, (uw_t 55 (by decide +kernel) (by decide +kernel))⟩
theorem fl_RX5_42 : FL RX5 42 1 13 11 := ⟨RX1, TX1, 14, rfl, uwX1, rfl, by decide, by decide, (uw_t 90 (by decide +kernel) (by decide +kernel))⟩
theorem fl_RX5_56 : FL RX5 56 1 1 0 := ⟨RX1, TX1, 14, rfl, uwX1, rfl, by decide, by decide, (uw_t 50 (by decide +kernel) (by decide +kernel))⟩
theorem fl_RX5_63 : FL RX5 63 1 8 6 := ⟨RX1, TX1, 14, rfl, uwX1, rfl, by decide, by decide, (uw_t 77 (by decide +kernel) (by decide +kernel))⟩
theorem fl_RX5_70 : FL RX5 70 1 7 5 := ⟨RX1, TX1, 14, rfl, uwX1, rfl, by decide, by decide, (uw_t 73 (by decide +kernel) (by decide +kernel))⟩
theorem fl_RX5_92 : FL RX5 92 1 9 7 := ⟨RX1, TX1, 14, rfl, uwX1, rfl, by decide, by decide, (uw_t 83 (by decide +kernel) (by decide +kernel))⟩
theorem fl_RX6_7 : FL RX6 7 6 3 0 := ⟨RX6, TX6, 4, rfl, uwX6, rfl, by decide, by decide, (uw_t 142 (by decide +kernel) (by decide +kernel))⟩
theorem fl_RX6_19 : FL RX6 19 6 0 0 := ⟨RX6, TX6, 4, rfl, uwX6, rfl, by decide, by decide, (uw_t 133 (by decide +kernel) (by decide +kernel))⟩
theorem fl_RX6_22 : FL RX6 22 6 1 3 := ⟨RX6, TX6, 4, rfl, uwX6, rfl, by decide, by decide, (uw_t 134 (by decide +kernel) (by decide +kernel))⟩
theorem fl_RX6_26 : FL RX6 26 6 2 4 := ⟨RX6, TX6, 4, rfl, uwX6, rfl, by decide, by decide, (uw_t 138 (by decide +kernel) (by decide +kernel))⟩
theorem fl_RX7_9 : FL RX7 9 7 0 3 := ⟨RX7, TX7, 8, rfl, uwX7, rfl, by decide, by decide, (uw_t 156 (by decide +kernel) (by decide +kernel))⟩
theorem fl_RX7_15 : FL RX7 15 7 1 0 := ⟨RX7, TX7, 8, rfl, uwX7, rfl, by decide, by decide, (uw_t 158 (by decide +kernel) (by decide +kernel))⟩
theorem fl_RX7_19 : FL RX7 19 7 2 0 := ⟨RX7, TX7, 8, rfl, uwX7, rfl, by decide, by decide, (uw_t 160 (by decide +kernel) (by decide +kernel))⟩
theorem fl_RX7_22 : FL RX7 22 7 3 0 := ⟨RX7, TX7, 8, rfl, uwX7, rfl, by decide, by decide, (uw_t 162 (by decide +kernel) (by decide +kernel))⟩
theorem fl_RX7_25 : FL RX7 25 7 4 4 := ⟨RX7, TX7, 8, rfl, uwX7, rfl, by decide, by decide, (uw_t 164 (by decide +kernel) (by decide +kernel))⟩
theorem fl_RX7_32 : FL RX7 32 7 5 5 := ⟨RX7, TX7, 8, rfl, uwX7, rfl, by decide, by decide, (uw_t 166 (by decide +kernel) (by decide +kernel))⟩
theorem fl_RX7_41 : FL RX7 41 7 6 26 := ⟨RX7, TX7, 8, rfl, uwX7, rfl, by decide, by decide, (uw_t 167 (by decide +kernel) (by decide +kernel))⟩
theorem fl_RX7_45 : FL RX7 45 7 7 33 := ⟨RX7, TX7, 8, rfl, uwX7, rfl, by decide, by decide, (uw_t 168 (by decide +kernel) (by decide +kernel))⟩
theorem fl_RX8_12 : FL RX8 12 8 0 1 := ⟨RX8, TX8, 4, rfl, uwX8, rfl, by decide, by decide, (uw_t 384 (by decide +kernel) (by decide +kernel))⟩
theorem fl_RX8_18 : FL RX8 18 8 1 13 := ⟨RX8, TX8, 4, rfl, uwX8, rfl, by decide, by decide, (uw_t 385 (by decide +kernel) (by decide +kernel))⟩
theorem fl_RX8_22 : FL RX8 22 8 2 14 := ⟨RX8, TX8, 4, rfl, uwX8, rfl, by decide, by decide, (uw_t 386 (by decide +kernel) (by decide +kernel))⟩
theorem fl_RX8_25 : FL RX8 25 8 3 15 := ⟨RX8, TX8, 4, rfl, uwX8, rfl, by decide, by decide, (uw_t 387 (by decide +kernel) (by decide +kernel))⟩
theorem fl_RX8_35 : FL RX8 35 1 7 5 := ⟨RX1, TX1, 14, rfl, uwX1, rfl, by decide, by decide, (uw_t 72 (by decide +kernel) (by decide +kernel))⟩
theorem fl_RX8_42 : FL RX8 42 1 4 0 := ⟨RX1, TX1, 14, rfl, uwX1, rfl, by decide, by decide, (uw_t 64 (by decide +kernel) (by decide +kernel))⟩
theorem fl_RX8_46 : FL RX8 46 1 1 0 := ⟨RX1, TX1, 14, rfl, uwX1, rfl, by decide, by decide, (uw_t 49 (by decide +kernel) (by decide +kernel))⟩
theorem fl_RX8_71 : FL RX8 71 1 3 0 := ⟨RX1, TX1, 14, rfl, uwX1, rfl, by decide, by decide, (uw_t 61 (by decide +kernel) (by decide +kernel))⟩
theorem fl_RX9_12 : FL RX9 12 9 0 1 := ⟨RX9, TX9, 6, rfl, uwX9, rfl, by decide, by decide, (uw_t 355 (by decide +kernel) (by decide +kernel))⟩
theorem fl_RX9_18 : FL RX9 18 9 1 0 := ⟨RX9, TX9, 6, rfl, uwX9, rfl, by decide, by decide, (uw_t 356 (by decide +kernel) (by decide +kernel))⟩
theorem fl_RX9_22 : FL RX9 22 9 2 0 := ⟨RX9, TX9, 6, rfl, uwX9, rfl, by decide, by decide, (uw_t 357 (by decide +kernel) (by decide +kernel))⟩
theorem fl_RX9_25 : FL RX9 25 9 3 0 := ⟨RX9, TX9, 6, rfl, uwX9, rfl, by decide, by decide, (uw_t 358 (by decide +kernel) (by decide +kernel))⟩
theorem fl_RX9_28 : FL RX9 28 9 4 0 := ⟨RX9, TX9, 6, rfl, uwX9, rfl, by decide, by decide, (uw_t 359 (by decide +kernel) (by decide +kernel))⟩
theorem fl_RX9_31 : FL RX9 31 9 5 0 := ⟨RX9, TX9, 6, rfl, uwX9, rfl, by decide, by decide, (uw_t 361 (by decide +kernel) (by decide +kernel))⟩
theorem fl_RX9_51 : FL RX9 51 1 8 6 := ⟨RX1, TX1, 14, rfl, uwX1, rfl, by decide, by decide, (uw_t 76 (by decide +kernel) (by decide +kernel))⟩
theorem fl_RX9_63 : FL RX9 63 1 0 0 := ⟨RX1, TX1, 14, rfl, uwX1, rfl, by decide, by decide, (uw_t 44 (by decide +kernel) (by decide +kernel))⟩
theorem fl_RX9_66 : FL RX9 66 1 5 3 := ⟨RX1, TX1, 14, rfl, uwX1, rfl, by decide, by decide, (uw_t 68 (by decide +kernel) (by decide +kernel))⟩
theorem fl_RX9_69 : FL RX9 69 1 9 7 := ⟨RX1, TX1, 14, rfl, uwX1, rfl, by decide, by decide, (uw_t 81 (by decide +kernel) (by decide +kernel))⟩
theorem fl_RX11_7 : FL RX11 7 11 0 3 := ⟨RX11, TX11, 51, rfl, uwX11, rfl, by decide, by decide, (uw_t 1185 (by decide +kernel) (by decide +kernel))⟩
theorem fl_RX11_13 : FL RX11 13 11 1 4 := ⟨RX11, TX11, 51, rfl, uwX11, rfl, by decide, by decide, (uw_t 1186 (by decide +kernel) (by decide +kernel))⟩
theorem fl_RX11_17 : FL RX11 17 11 11 5 := ⟨RX11, TX11, 51, rfl, uwX11, rfl, by decide, by decide, (uw_t 1196 (by decide +kernel) (by decide +kernel))⟩
theorem fl_RX11_20 : FL RX11 20 11 16 6 := ⟨RX11, TX11, 51, rfl, uwX11, rfl, by decide, by decide, (uw_t 1201 (by decide +kernel) (by decide +kernel))⟩
theorem fl_RX11_23 : FL RX11 23 11 17 7 := ⟨RX11, TX11, 51, rfl, uwX11, rfl, by decide, by decide, (uw_t 1202 (by decide +kernel) (by decide +kernel))⟩
theorem fl_RX11_26 : FL RX11 26 11 18 8 := ⟨RX11, TX11, 51, rfl, uwX11, rfl, by decide, by decide, (uw_t 1203 (by decide +kernel) (by decide +kernel))⟩
theorem fl_RX11_29 : FL RX11 29 11 19 9 := ⟨RX11, TX11, 51, rfl, uwX11, rfl, by decide, by decide, (uw_t 1204 (by decide +kernel) (by decide +kernel))⟩
theorem fl_RX11_32 : FL RX11 32 11 23 10 := ⟨RX11, TX11, 51, rfl, uwX11, rfl, by decide, by decide, (uw_t 1208 (by decide +kernel) (by decide +kernel))⟩
theorem fl_RX11_35 : FL RX11 35 11 24 11 := ⟨RX11, TX11, 51, rfl, uwX11, rfl, by decide, by decide, (uw_t 1209 (by decide +kernel) (by decide +kernel))⟩
theorem fl_RX11_38 : FL RX11 38 11 25 12 := ⟨RX11, TX11, 51, rfl, uwX11, rfl, by decide, by decide, (uw_t 1210 (by decide +kernel) (by decide +kernel))⟩
theorem fl_RX11_41 : FL RX11 41 11 26 13 := ⟨RX11, TX11, 51, rfl, uwX11, rfl, by decide, by decide, (uw_t 1211 (by decide +kernel) (by decide +kernel))⟩
theorem fl_RX11_44 : FL RX11 44 11 27 14 := ⟨RX11, TX11, 51, rfl, uwX11, rfl, by decide, by decide, (uw_t 1212 (by decide +kernel) (by decide +kernel))⟩
theorem fl_RX11_47 : FL RX11 47 11 28 15 := ⟨RX11, TX11, 51, rfl, uwX11, rfl, by decide, by decide, (uw_t 1213 (by decide +kernel) (by decide +kernel))⟩
theorem fl_RX11_50 : FL RX11 50 11 30 16 := ⟨RX11, TX11, 51, rfl, uwX11, rfl, by decide, by decide, (uw_t 1215 (by decide +kernel) (by decide +kernel))⟩
theorem fl_RX11_53 : FL RX11 53 11 31 17 := ⟨RX11, TX11, 51, rfl, uwX11, rfl, by decide, by decide, (uw_t 1216 (by decide +kernel) (by decide +kernel))⟩
theorem fl_RX11_56 : FL RX11 56 11 45 18 := ⟨RX11, TX11, 51, rfl, uwX11, rfl, by decide, by decide, (uw_t 1230 (by decide +kernel) (by decide +kernel))⟩
theorem fl_RX11_59 : FL RX11 59 11 46 19 := ⟨RX11, TX11, 51, rfl, uwX11, rfl, by decide, by decide, (uw_t 1231 (by decide +kernel) (by decide +kernel))⟩
theorem fl_RX11_62 : FL RX11 62 11 47 20 := ⟨RX11, TX11, 51, rfl, uwX11, rfl, by decide, by decide, (uw_t 1232 (by decide +kernel) (by decide +kernel))⟩
theorem fl_RX11_65 : FL RX11 65 11 49 21 := ⟨RX11, TX11, 51, rfl, uwX11, rfl, by decide, by decide, (uw_t 1234 (by decide +kernel) (by decide +kernel))⟩
theorem fl_RX11_68 : FL RX11 68 11 2 0 := ⟨RX11, TX11, 51, rfl, uwX11, rfl, by decide, by decide, (uw_t 1187 (by decide +kernel) (by decide +kernel))⟩
theorem fl_RX11_82 : FL RX11 82 11 3 0 := ⟨RX11, TX11, 51, rfl, uwX11, rfl, by decide, by decide, (uw_t 1188 (by decide +kernel) (by decide +kernel))⟩
theorem fl_RX11_89 : FL RX11 89 11 4 0 := ⟨RX11, TX11, 51, rfl, uwX11, rfl, by decide, by decide, (uw_t 1189 (by decide +kernel) (by decide +kernel))⟩
theorem fl_RX11_92 : FL RX11 92 11 5 0 := ⟨RX11, TX11, 51, rfl, uwX11, rfl, by decide, by decide, (uw_t 1190 (by decide +kernel) (by decide +kernel))⟩
theorem fl_RX11_107 : FL RX11 107 11 7 0 := ⟨RX11, TX11, 51, rfl, uwX11, rfl, by decide, by decide, (uw_t 1192 (by decide +kernel) (by decide +kernel))⟩
theorem fl_RX11_113 : FL RX11 113 11 6 0 := ⟨RX11, TX11, 51, rfl, uwX11, rfl, by decide, by decide, (uw_t 1191 (by decide +kernel) (by decide +kernel))⟩
theorem fl_RX11_116 : FL RX11 116 11 8 0 := ⟨RX11, TX11, 51, rfl, uwX11, rfl, by decide, by decide, (uw_t 1193 (by decide +kernel) (by decide +kernel))⟩
theorem fl_RX11_138 : FL RX11 138 11 9 0 := ⟨RX11, TX11, 51, rfl, uwX11, rfl, by decide, by decide, (uw_t 1194 (by decide +kernel) (by decide +kernel))⟩
theorem fl_RX11_157 : FL RX11 157 11 10 0 := ⟨RX11, TX11, 51, rfl, uwX11, rfl, by decide, by decide, (uw_t 1195 (by decide +kernel) (by decide +kernel))⟩
theorem fl_RX11_182 : FL RX11 182 11 12 0 := ⟨RX11, TX11, 51, rfl, uwX11, rfl, by decide, by decide, (uw_t 1197 (by decide +kernel) (by decide +kernel))⟩
theorem fl_RX11_185 : FL RX11 185 11 13 0 := ⟨RX11, TX11, 51, rfl, uwX11, rfl, by decide, by decide, (uw_t 1198 (by decide +kernel) (by decide +kernel))⟩
theorem fl_RX11_188 : FL RX11 188 11 14 0 := ⟨RX11, TX11, 51, rfl, uwX11, rfl, by decide, by decide, (uw_t 1199 (by decide +kernel) (by decide +kernel))⟩
theorem fl_RX11_191 : FL RX11 191 11 15 0 := ⟨RX11, TX11, 51, rfl, uwX11, rfl, by decide, by decide, (uw_t 1200 (by decide +kernel) (by decide +kernel))⟩
theorem fl_RX11_215 : FL RX11 215 11 20 0 := ⟨RX11, TX11, 51, rfl, uwX11, rfl, by decide, by decide, (uw_t 1205 (by decide +kernel) (by decide +kernel))⟩
theorem fl_RX11_222 : FL RX11 222 11 22 0 := ⟨RX11, TX11, 51, rfl, uwX11, rfl, by decide, by decide, (uw_t 1207 (by decide +kernel) (by decide +kernel))⟩
theorem fl_RX11_225 : FL RX11 225 11 21 0 := ⟨RX11, TX11, 51, rfl, uwX11, rfl, by decide, by decide, (uw_t 1206 (by decide +kernel) (by decide +kernel))⟩
theorem fl_RX11_339 : FL RX11 339 11 29 0 := ⟨RX11, TX11, 51, rfl, uwX11, rfl, by decide, by decide, (uw_t 1214 (by decide +kernel) (by decide +kernel))⟩
theorem fl_RX11_381 : FL RX11 381 11 32 0 := ⟨RX11, TX11, 51, rfl, uwX11, rfl, by decide, by decide, (uw_t 1217 (by decide +kernel) (by decide +kernel))⟩
theorem fl_RX11_387 : FL RX11 387 11 34 0 := ⟨RX11, TX11, 51, rfl, uwX11, rfl, by decide, by decide, (uw_t 1219 (by decide +kernel) (by decide +kernel))⟩
theorem fl_RX11_390 : FL RX11 390 11 35 0 := ⟨RX11, TX11, 51, rfl, uwX11, rfl, by decide, by decide, (uw_t 1220 (by decide +kernel) (by decide +kernel))⟩
theorem fl_RX11_393 : FL RX11 393 11 40 0 := ⟨RX11, TX11, 51, rfl, uwX11, rfl, by decide, by decide, (uw_t 1225 (by decide +kernel) (by decide +kernel))⟩
theorem fl_RX11_396 : FL RX11 396 11 33 0 := ⟨RX11, TX11, 51, rfl, uwX11, rfl, by decide, by decide, (uw_t 1218 (by decide +kernel) (by decide +kernel))⟩
theorem fl_RX11_399 : FL RX11 399 11 36 0 := ⟨RX11, TX11, 51, rfl, uwX11, rfl, by decide, by decide, (uw_t 1221 (by decide +kernel) (by decide +kernel))⟩
theorem fl_RX11_402 : FL RX11 402 11 37 0 := ⟨RX11, TX11, 51, rfl, uwX11, rfl, by decide, by decide, (uw_t 1222 (by decide +kernel) (by decide +kernel))⟩
theorem fl_RX11_405 : FL RX11 405 11 38 0 := ⟨RX11, TX11, 51, rfl, uwX11, rfl, by decide, by decide, (uw_t 1223 (by decide +kernel) (by decide +kernel))⟩
theorem fl_RX11_408 : FL RX11 408 11 39 0 := ⟨RX11, TX11, 51, rfl, uwX11, rfl, by decide, by decide, (uw_t 1224 (by decide +kernel) (by decide +kernel))⟩
theorem fl_RX11_411 : FL RX11 411 11 41 0 := ⟨RX11, TX11, 51, rfl, uwX11, rfl, by decide, by decide, (uw_t 1226 (by decide +kernel) (by decide +kernel))⟩
theorem fl_RX11_414 : FL RX11 414 11 42 0 := ⟨RX11, TX11, 51, rfl, uwX11, rfl, by decide, by decide, (uw_t 1227 (by decide +kernel) (by decide +kernel))⟩
theorem fl_RX11_417 : FL RX11 417 11 43 0 := ⟨RX11, TX11, 51, rfl, uwX11, rfl, by decide, by decide, (uw_t 1228 (by decide +kernel) (by decide +kernel))⟩
theorem fl_RX11_420 : FL RX11 420 11 44 0 := ⟨RX11, TX11, 51, rfl, uwX11, rfl, by decide, by decide, (uw_t 1229 (by decide +kernel) (by decide +kernel))⟩
theorem fl_RX11_459 : FL RX11 459 11 48 0 := ⟨RX11, TX11, 51, rfl, uwX11, rfl, by decide, by decide, (uw_t 1233 (by decide +kernel) (by decide +kernel))⟩
theorem fl_RX11_477 : FL RX11 477 11 50 0 := ⟨RX11, TX11, 51, rfl, uwX11, rfl, by decide, by decide, (uw_t 1235 (by decide +kernel) (by decide +kernel))⟩
theorem fp_0_0 (a : Nat) : FP 0 0 (.ref a) := ⟨RX0, TX0, 2, tyX0, rfl, tyX0_ok, nmX0, rfl, rfl, rfl⟩
theorem fp_1_0 (x : Int32) : FP 1 0 (.int x) := ⟨RX1, TX1, 14, tyX1, rfl, tyX1_ok, nmX1, rfl, rfl, rfl⟩
theorem fp_1_1 (x : Int32) : FP 1 1 (.int x) := ⟨RX1, TX1, 14, tyX1, rfl, tyX1_ok, nmX1, rfl, rfl, rfl⟩
theorem fp_1_2 (x : Int32) : FP 1 2 (.int x) := ⟨RX1, TX1, 14, tyX1, rfl, tyX1_ok, nmX1, rfl, rfl, rfl⟩
theorem fp_1_3 (x : Int32) : FP 1 3 (.int x) := ⟨RX1, TX1, 14, tyX1, rfl, tyX1_ok, nmX1, rfl, rfl, rfl⟩
theorem fp_1_4 (x : Int32) : FP 1 4 (.int x) := ⟨RX1, TX1, 14, tyX1, rfl, tyX1_ok, nmX1, rfl, rfl, rfl⟩
theorem fp_2_1 (x : Int32) : FP 2 1 (.int x) := ⟨RX2, TX2, 2, tyX2, rfl, tyX2_ok, nmX2, rfl, rfl, rfl⟩
theorem fp_3_0 (a : Nat) : FP 3 0 (.ref a) := ⟨RX3, TX3, 19, tyX3, rfl, tyX3_ok, nmX3, rfl, rfl, rfl⟩
theorem fp_3_1 (x : Int32) : FP 3 1 (.int x) := ⟨RX3, TX3, 19, tyX3, rfl, tyX3_ok, nmX3, rfl, rfl, rfl⟩
theorem fp_3_2 (x : Int32) : FP 3 2 (.int x) := ⟨RX3, TX3, 19, tyX3, rfl, tyX3_ok, nmX3, rfl, rfl, rfl⟩
theorem fp_3_3 (x : Int32) : FP 3 3 (.int x) := ⟨RX3, TX3, 19, tyX3, rfl, tyX3_ok, nmX3, rfl, rfl, rfl⟩
theorem fp_3_4 (x : Int32) : FP 3 4 (.int x) := ⟨RX3, TX3, 19, tyX3, rfl, tyX3_ok, nmX3, rfl, rfl, rfl⟩
theorem fp_3_5 (x : Int32) : FP 3 5 (.int x) := ⟨RX3, TX3, 19, tyX3, rfl, tyX3_ok, nmX3, rfl, rfl, rfl⟩
theorem fp_3_6 (x : Int32) : FP 3 6 (.int x) := ⟨RX3, TX3, 19, tyX3, rfl, tyX3_ok, nmX3, rfl, rfl, rfl⟩
theorem fp_3_7 (x : Int32) : FP 3 7 (.int x) := ⟨RX3, TX3, 19, tyX3, rfl, tyX3_ok, nmX3, rfl, rfl, rfl⟩
theorem fp_3_8 (x : Int32) : FP 3 8 (.int x) := ⟨RX3, TX3, 19, tyX3, rfl, tyX3_ok, nmX3, rfl, rfl, rfl⟩
theorem fp_3_9 (x : Int32) : FP 3 9 (.int x) := ⟨RX3, TX3, 19, tyX3, rfl, tyX3_ok, nmX3, rfl, rfl, rfl⟩
theorem fp_3_10 (x : Int32) : FP 3 10 (.int x) := ⟨RX3, TX3, 19, tyX3, rfl, tyX3_ok, nmX3, rfl, rfl, rfl⟩
theorem fp_3_13 (x : Int32) : FP 3 13 (.int x) := ⟨RX3, TX3, 19, tyX3, rfl, tyX3_ok, nmX3, rfl, rfl, rfl⟩
theorem fp_3_14 (x : Int32) : FP 3 14 (.int x) := ⟨RX3, TX3, 19, tyX3, rfl, tyX3_ok, nmX3, rfl, rfl, rfl⟩
theorem fp_3_15 (x : Int32) : FP 3 15 (.int x) := ⟨RX3, TX3, 19, tyX3, rfl, tyX3_ok, nmX3, rfl, rfl, rfl⟩
theorem fp_3_16 (x : Int32) : FP 3 16 (.int x) := ⟨RX3, TX3, 19, tyX3, rfl, tyX3_ok, nmX3, rfl, rfl, rfl⟩
theorem fp_3_17 (x : Int32) : FP 3 17 (.int x) := ⟨RX3, TX3, 19, tyX3, rfl, tyX3_ok, nmX3, rfl, rfl, rfl⟩
theorem fp_3_18 (x : Int32) : FP 3 18 (.int x) := ⟨RX3, TX3, 19, tyX3, rfl, tyX3_ok, nmX3, rfl, rfl, rfl⟩
theorem fp_4_2 (x : Int32) : FP 4 2 (.int x) := ⟨RX4, TX4, 11, tyX4, rfl, tyX4_ok, nmX4, rfl, rfl, rfl⟩
theorem fp_4_3 (x : Int32) : FP 4 3 (.int x) := ⟨RX4, TX4, 11, tyX4, rfl, tyX4_ok, nmX4, rfl, rfl, rfl⟩
theorem fp_4_4 (a : Nat) : FP 4 4 (.ref a) := ⟨RX4, TX4, 11, tyX4, rfl, tyX4_ok, nmX4, rfl, rfl, rfl⟩
theorem fp_4_5 (x : Int32) : FP 4 5 (.int x) := ⟨RX4, TX4, 11, tyX4, rfl, tyX4_ok, nmX4, rfl, rfl, rfl⟩
theorem fp_4_6 (x : Int32) : FP 4 6 (.int x) := ⟨RX4, TX4, 11, tyX4, rfl, tyX4_ok, nmX4, rfl, rfl, rfl⟩
theorem fp_4_7 (x : Int32) : FP 4 7 (.int x) := ⟨RX4, TX4, 11, tyX4, rfl, tyX4_ok, nmX4, rfl, rfl, rfl⟩
theorem fp_4_8 (x : Int32) : FP 4 8 (.int x) := ⟨RX4, TX4, 11, tyX4, rfl, tyX4_ok, nmX4, rfl, rfl, rfl⟩
theorem fp_4_9 (x : Int32) : FP 4 9 (.int x) := ⟨RX4, TX4, 11, tyX4, rfl, tyX4_ok, nmX4, rfl, rfl, rfl⟩
theorem fp_5_0 (a : Nat) : FP 5 0 (.ref a) := ⟨RX5, TX5, 6, tyX5, rfl, tyX5_ok, nmX5, rfl, rfl, rfl⟩
theorem fp_5_1 (x : Int32) : FP 5 1 (.int x) := ⟨RX5, TX5, 6, tyX5, rfl, tyX5_ok, nmX5, rfl, rfl, rfl⟩
theorem fp_5_2 (x : Int32) : FP 5 2 (.int x) := ⟨RX5, TX5, 6, tyX5, rfl, tyX5_ok, nmX5, rfl, rfl, rfl⟩
theorem fp_6_3 (x : Int32) : FP 6 3 (.int x) := ⟨RX6, TX6, 4, tyX6, rfl, tyX6_ok, nmX6, rfl, rfl, rfl⟩
theorem fp_7_1 (x : Int32) : FP 7 1 (.int x) := ⟨RX7, TX7, 8, tyX7, rfl, tyX7_ok, nmX7, rfl, rfl, rfl⟩
theorem fp_7_2 (x : Int32) : FP 7 2 (.int x) := ⟨RX7, TX7, 8, tyX7, rfl, tyX7_ok, nmX7, rfl, rfl, rfl⟩
theorem fp_7_3 (x : Int32) : FP 7 3 (.int x) := ⟨RX7, TX7, 8, tyX7, rfl, tyX7_ok, nmX7, rfl, rfl, rfl⟩
theorem fp_8_0 (a : Nat) : FP 8 0 (.ref a) := ⟨RX8, TX8, 4, tyX8, rfl, tyX8_ok, nmX8, rfl, rfl, rfl⟩
theorem fp_9_0 (a : Nat) : FP 9 0 (.ref a) := ⟨RX9, TX9, 6, tyX9, rfl, tyX9_ok, nmX9, rfl, rfl, rfl⟩
theorem fp_9_1 (x : Int32) : FP 9 1 (.int x) := ⟨RX9, TX9, 6, tyX9, rfl, tyX9_ok, nmX9, rfl, rfl, rfl⟩
theorem fp_9_2 (x : Int32) : FP 9 2 (.int x) := ⟨RX9, TX9, 6, tyX9, rfl, tyX9_ok, nmX9, rfl, rfl, rfl⟩
theorem fp_9_3 (x : Int32) : FP 9 3 (.int x) := ⟨RX9, TX9, 6, tyX9, rfl, tyX9_ok, nmX9, rfl, rfl, rfl⟩
theorem fp_9_4 (x : Int32) : FP 9 4 (.int x) := ⟨RX9, TX9, 6, tyX9, rfl, tyX9_ok, nmX9, rfl, rfl, rfl⟩
theorem fp_9_5 (x : Int32) : FP 9 5 (.int x) := ⟨RX9, TX9, 6, tyX9, rfl, tyX9_ok, nmX9, rfl, rfl, rfl⟩
theorem fp_11_2 (x : Int32) : FP 11 2 (.int x) := ⟨RX11, TX11, 51, tyX11, rfl, tyX11_ok, nmX11, rfl, rfl, rfl⟩
theorem fp_11_3 (x : Int32) : FP 11 3 (.int x) := ⟨RX11, TX11, 51, tyX11, rfl, tyX11_ok, nmX11, rfl, rfl, rfl⟩
theorem fp_11_4 (x : Int32) : FP 11 4 (.int x) := ⟨RX11, TX11, 51, tyX11, rfl, tyX11_ok, nmX11, rfl, rfl, rfl⟩
theorem fp_11_5 (x : Int32) : FP 11 5 (.int x) := ⟨RX11, TX11, 51, tyX11, rfl, tyX11_ok, nmX11, rfl, rfl, rfl⟩
theorem fp_11_6 (x : Int32) : FP 11 6 (.int x) := ⟨RX11, TX11, 51, tyX11, rfl, tyX11_ok, nmX11, rfl, rfl, rfl⟩
theorem fp_11_7 (x : Int32) : FP 11 7 (.int x) := ⟨RX11, TX11, 51, tyX11, rfl, tyX11_ok, nmX11, rfl, rfl, rfl⟩
theorem fp_11_8_0 : FP 11 8 (.int 0) := ⟨RX11, TX11, 51, tyX11, rfl, tyX11_ok, nmX11, rfl, rfl, rfl⟩
theorem fp_11_8_1 : FP 11 8 (.int 1) := ⟨RX11, TX11, 51, tyX11, rfl, tyX11_ok, nmX11, rfl, rfl, rfl⟩
theorem fp_11_9 (x : Int32) : FP 11 9 (.int x) := ⟨RX11, TX11, 51, tyX11, rfl, tyX11_ok, nmX11, rfl, rfl, rfl⟩
theorem fp_11_10 (x : Int32) : FP 11 10 (.int x) := ⟨RX11, TX11, 51, tyX11, rfl, tyX11_ok, nmX11, rfl, rfl, rfl⟩
theorem fp_11_12 (x : Int32) : FP 11 12 (.int x) := ⟨RX11, TX11, 51, tyX11, rfl, tyX11_ok, nmX11, rfl, rfl, rfl⟩
theorem fp_11_13 (x : Int32) : FP 11 13 (.int x) := ⟨RX11, TX11, 51, tyX11, rfl, tyX11_ok, nmX11, rfl, rfl, rfl⟩
theorem fp_11_14 (x : Int32) : FP 11 14 (.int x) := ⟨RX11, TX11, 51, tyX11, rfl, tyX11_ok, nmX11, rfl, rfl, rfl⟩
theorem fp_11_15 (x : Int32) : FP 11 15 (.int x) := ⟨RX11, TX11, 51, tyX11, rfl, tyX11_ok, nmX11, rfl, rfl, rfl⟩
theorem fp_11_20 (x : Int32) : FP 11 20 (.int x) := ⟨RX11, TX11, 51, tyX11, rfl, tyX11_ok, nmX11, rfl, rfl, rfl⟩
theorem fp_11_21 (x : Int32) : FP 11 21 (.int x) := ⟨RX11, TX11, 51, tyX11, rfl, tyX11_ok, nmX11, rfl, rfl, rfl⟩
theorem fp_11_22 (x : Int32) : FP 11 22 (.int x) := ⟨RX11, TX11, 51, tyX11, rfl, tyX11_ok, nmX11, rfl, rfl, rfl⟩
theorem fp_11_29 (x : Int32) : FP 11 29 (.int x) := ⟨RX11, TX11, 51, tyX11, rfl, tyX11_ok, nmX11, rfl, rfl, rfl⟩
theorem fp_11_32 (x : Int32) : FP 11 32 (.int x) := ⟨RX11, TX11, 51, tyX11, rfl, tyX11_ok, nmX11, rfl, rfl, rfl⟩
theorem fp_11_33 (x : Int32) : FP 11 33 (.int x) := ⟨RX11, TX11, 51, tyX11, rfl, tyX11_ok, nmX11, rfl, rfl, rfl⟩
theorem fp_11_34 (x : Int32) : FP 11 34 (.int x) := ⟨RX11, TX11, 51, tyX11, rfl, tyX11_ok, nmX11, rfl, rfl, rfl⟩
theorem fp_11_35 (x : Int32) : FP 11 35 (.int x) := ⟨RX11, TX11, 51, tyX11, rfl, tyX11_ok, nmX11, rfl, rfl, rfl⟩
theorem fp_11_36 (x : Int32) : FP 11 36 (.int x) := ⟨RX11, TX11, 51, tyX11, rfl, tyX11_ok, nmX11, rfl, rfl, rfl⟩
theorem fp_11_37 (x : Int32) : FP 11 37 (.int x) := ⟨RX11, TX11, 51, tyX11, rfl, tyX11_ok, nmX11, rfl, rfl, rfl⟩
theorem fp_11_38 (x : Int32) : FP 11 38 (.int x) := ⟨RX11, TX11, 51, tyX11, rfl, tyX11_ok, nmX11, rfl, rfl, rfl⟩
theorem fp_11_39 (x : Int32) : FP 11 39 (.int x) := ⟨RX11, TX11, 51, tyX11, rfl, tyX11_ok, nmX11, rfl, rfl, rfl⟩
theorem fp_11_40 (x : Int32) : FP 11 40 (.int x) := ⟨RX11, TX11, 51, tyX11, rfl, tyX11_ok, nmX11, rfl, rfl, rfl⟩
theorem fp_11_41 (x : Int32) : FP 11 41 (.int x) := ⟨RX11, TX11, 51, tyX11, rfl, tyX11_ok, nmX11, rfl, rfl, rfl⟩
theorem fp_11_42 (x : Int32) : FP 11 42 (.int x) := ⟨RX11, TX11, 51, tyX11, rfl, tyX11_ok, nmX11, rfl, rfl, rfl⟩
theorem fp_11_43 (x : Int32) : FP 11 43 (.int x) := ⟨RX11, TX11, 51, tyX11, rfl, tyX11_ok, nmX11, rfl, rfl, rfl⟩
theorem fp_11_44 (x : Int32) : FP 11 44 (.int x) := ⟨RX11, TX11, 51, tyX11, rfl, tyX11_ok, nmX11, rfl, rfl, rfl⟩
theorem fp_11_48 (x : Int32) : FP 11 48 (.int x) := ⟨RX11, TX11, 51, tyX11, rfl, tyX11_ok, nmX11, rfl, rfl, rfl⟩
theorem fp_11_50 (x : Int32) : FP 11 50 (.int x) := ⟨RX11, TX11, 51, tyX11, rfl, tyX11_ok, nmX11, rfl, rfl, rfl⟩
theorem mc_RX0_23 : MC RX0 23 := ⟨(uw_t 839 (by decide +kernel) (by decide +kernel)), (uw_t 621 (by decide +kernel) (by decide +kernel)), (uw_t 620 (by decide +kernel) (by decide +kernel)), (uw_t 18 (by decide +kernel) (by decide +kernel))⟩
theorem mc_RX1_55 : MC RX1 55 := ⟨(uw_t 619 (by decide +kernel) (by decide +kernel)), (uw_t 621 (by decide +kernel) (by decide +kernel)), (uw_t 620 (by decide +kernel) (by decide +kernel)), (uw_t 18 (by decide +kernel) (by decide +kernel))⟩
theorem mc_RX7_61 : MC RX7 61 := ⟨(uw_t 1174 (by decide +kernel) (by decide +kernel)), (uw_t 621 (by decide +kernel) (by decide +kernel)), (uw_t 620 (by decide +kernel) (by decide +kernel)), (uw_t 18 (by decide +kernel) (by decide +kernel))⟩
theorem mc_RX8_60 : MC RX8 60 := ⟨(uw_t 926 (by decide +kernel) (by decide +kernel)), (uw_t 621 (by decide +kernel) (by decide +kernel)), (uw_t 620 (by decide +kernel) (by decide +kernel)), (uw_t 18 (by decide +kernel) (by decide +kernel))⟩
theorem mm_RX2_56 : MM RX2 56 Lib.Math.max.name Lib.Math.max.code 2 := ⟨(uw_t 985 (by decide +kernel) (by decide +kernel)), (uw_t 131 (by decide +kernel) (by decide +kernel)), (uw_t 5 (by decide +kernel) (by decide +kernel)), (uw_t 132 (by decide +kernel) (by decide +kernel))⟩
theorem mm_RX4_185 : MM RX4 185 Lib.Math.min.name Lib.Math.min.code 2 := ⟨(uw_t 484 (by decide +kernel) (by decide +kernel)), (uw_t 485 (by decide +kernel) (by decide +kernel)), (uw_t 5 (by decide +kernel) (by decide +kernel)), (uw_t 486 (by decide +kernel) (by decide +kernel))⟩
theorem mm_RX5_36 : MM RX5 36 Lib.Math.min.name Lib.Math.min.code 2 := ⟨(uw_t 760 (by decide +kernel) (by decide +kernel)), (uw_t 485 (by decide +kernel) (by decide +kernel)), (uw_t 5 (by decide +kernel) (by decide +kernel)), (uw_t 486 (by decide +kernel) (by decide +kernel))⟩
theorem mm_RX5_57 : MM RX5 57 Lib.Math.max.name Lib.Math.max.code 2 := ⟨(uw_t 770 (by decide +kernel) (by decide +kernel)), (uw_t 131 (by decide +kernel) (by decide +kernel)), (uw_t 5 (by decide +kernel) (by decide +kernel)), (uw_t 132 (by decide +kernel) (by decide +kernel))⟩
theorem mm_RX7_55 : MM RX7 55 Lib.Math.max.name Lib.Math.max.code 2 := ⟨(uw_t 628 (by decide +kernel) (by decide +kernel)), (uw_t 131 (by decide +kernel) (by decide +kernel)), (uw_t 5 (by decide +kernel) (by decide +kernel)), (uw_t 132 (by decide +kernel) (by decide +kernel))⟩
theorem mm_RX8_66 : MM RX8 66 Lib.Math.abs.name Lib.Math.abs.code 1 := ⟨(uw_t 923 (by decide +kernel) (by decide +kernel)), (uw_t 924 (by decide +kernel) (by decide +kernel)), (uw_t 5 (by decide +kernel) (by decide +kernel)), (uw_t 925 (by decide +kernel) (by decide +kernel))⟩
theorem mm_RX9_34 : MM RX9 34 Lib.Math.min.name Lib.Math.min.code 2 := ⟨(uw_t 877 (by decide +kernel) (by decide +kernel)), (uw_t 485 (by decide +kernel) (by decide +kernel)), (uw_t 5 (by decide +kernel) (by decide +kernel)), (uw_t 486 (by decide +kernel) (by decide +kernel))⟩
theorem wi_RX10 : Cond.initialized RX10 ∈ UW := (uw_t 1 (by decide +kernel) (by decide +kernel))
theorem wc_X10_at : Cond.code yX10_at cX10_at 2 (some .int) ∈ UW := (uw_t 578 (by decide +kernel) (by decide +kernel))
theorem wp_X10_at : yX10_at.cls ≠ "java/lang/invoke/MethodHandle" ∧ yX10_at.cls ≠ "java/lang/invoke/VarHandle" ∧ (parseMethodDescriptor yX10_at.desc).map (fun d => d.parameters.length) = some 2 := by decide +kernel
theorem wt_X10_at : Cond.static yX10_at ∈ UW := (uw_t 577 (by decide +kernel) (by decide +kernel))
theorem mn_RX0_40 : MN RX0 40 yX10_at "LullabyHouse" cX10_at 2 (some .int) 2 := ⟨⟨by decide +kernel, wt_X10_at, wi_RX10, wc_X10_at⟩, wp_X10_at⟩
theorem mn_RX1_86 : MN RX1 86 yX10_at "LullabyHouse" cX10_at 2 (some .int) 2 := ⟨⟨by decide +kernel, wt_X10_at, wi_RX10, wc_X10_at⟩, wp_X10_at⟩
theorem mn_RX2_43 : MN RX2 43 yX10_at "LullabyHouse" cX10_at 2 (some .int) 2 := ⟨⟨by decide +kernel, wt_X10_at, wi_RX10, wc_X10_at⟩, wp_X10_at⟩
theorem mn_RX3_90 : MN RX3 90 yX10_at "LullabyHouse" cX10_at 2 (some .int) 2 := ⟨⟨by decide +kernel, wt_X10_at, wi_RX10, wc_X10_at⟩, wp_X10_at⟩
theorem mn_RX4_89 : MN RX4 89 yX10_at "LullabyHouse" cX10_at 2 (some .int) 2 := ⟨⟨by decide +kernel, wt_X10_at, wi_RX10, wc_X10_at⟩, wp_X10_at⟩
theorem mn_RX5_45 : MN RX5 45 yX10_at "LullabyHouse" cX10_at 2 (some .int) 2 := ⟨⟨by decide +kernel, wt_X10_at, wi_RX10, wc_X10_at⟩, wp_X10_at⟩
theorem mn_RX6_29 : MN RX6 29 yX10_at "LullabyHouse" cX10_at 2 (some .int) 2 := ⟨⟨by decide +kernel, wt_X10_at, wi_RX10, wc_X10_at⟩, wp_X10_at⟩
theorem mn_RX8_38 : MN RX8 38 yX10_at "LullabyHouse" cX10_at 2 (some .int) 2 := ⟨⟨by decide +kernel, wt_X10_at, wi_RX10, wc_X10_at⟩, wp_X10_at⟩
theorem wc_X10_bitAt : Cond.code yX10_bitAt cX10_bitAt 4 (some .int) ∈ UW := (uw_t 933 (by decide +kernel) (by decide +kernel))
theorem wp_X10_bitAt : yX10_bitAt.cls ≠ "java/lang/invoke/MethodHandle" ∧ yX10_bitAt.cls ≠ "java/lang/invoke/VarHandle" ∧ (parseMethodDescriptor yX10_bitAt.desc).map (fun d => d.parameters.length) = some 2 := by decide +kernel
theorem wt_X10_bitAt : Cond.static yX10_bitAt ∈ UW := (uw_t 932 (by decide +kernel) (by decide +kernel))
theorem mn_RX8_74 : MN RX8 74 yX10_bitAt "LullabyHouse" cX10_bitAt 4 (some .int) 2 := ⟨⟨by decide +kernel, wt_X10_bitAt, wi_RX10, wc_X10_bitAt⟩, wp_X10_bitAt⟩
theorem mn_RX9_55 : MN RX9 55 yX10_at "LullabyHouse" cX10_at 2 (some .int) 2 := ⟨⟨by decide +kernel, wt_X10_at, wi_RX10, wc_X10_at⟩, wp_X10_at⟩
theorem wc_X10_rowOf : Cond.code yX10_rowOf cX10_rowOf 3 (some .int) ∈ UW := (uw_t 667 (by decide +kernel) (by decide +kernel))
theorem wp_X10_rowOf : yX10_rowOf.cls ≠ "java/lang/invoke/MethodHandle" ∧ yX10_rowOf.cls ≠ "java/lang/invoke/VarHandle" ∧ (parseMethodDescriptor yX10_rowOf.desc).map (fun d => d.parameters.length) = some 3 := by decide +kernel
theorem wt_X10_rowOf : Cond.static yX10_rowOf ∈ UW := (uw_t 666 (by decide +kernel) (by decide +kernel))
theorem ms_RX10_142 : MS RX10 142 yX10_rowOf cX10_rowOf 3 (some .int) 3 := ⟨⟨(uw_t 665 (by decide +kernel) (by decide +kernel)), wt_X10_rowOf, wi_RX10, wc_X10_rowOf⟩, wp_X10_rowOf⟩
theorem wi_RJ6 : Cond.initialized RJ6 ∈ UW := (uw_t 20 (by decide +kernel) (by decide +kernel))
theorem wc_J6_bitCount_0f7a4 : Cond.code yJ6_bitCount_0f7a4 cJ6_bitCount_0f7a4 1 (some .int) ∈ UW := (uw_t 803 (by decide +kernel) (by decide +kernel))
theorem wp_J6_bitCount_0f7a4 : yJ6_bitCount_0f7a4.cls ≠ "java/lang/invoke/MethodHandle" ∧ yJ6_bitCount_0f7a4.cls ≠ "java/lang/invoke/VarHandle" ∧ (parseMethodDescriptor yJ6_bitCount_0f7a4.desc).map (fun d => d.parameters.length) = some 1 := by decide +kernel
theorem wt_J6_bitCount_0f7a4 : Cond.static yJ6_bitCount_0f7a4 ∈ UW := (uw_t 802 (by decide +kernel) (by decide +kernel))
theorem ms_RX10_171 : MS RX10 171 yJ6_bitCount_0f7a4 cJ6_bitCount_0f7a4 1 (some .int) 1 := ⟨⟨(uw_t 811 (by decide +kernel) (by decide +kernel)), wt_J6_bitCount_0f7a4, wi_RJ6, wc_J6_bitCount_0f7a4⟩, wp_J6_bitCount_0f7a4⟩
theorem wi_RX0 : Cond.initialized RX0 ∈ UW := (uw_t 9 (by decide +kernel) (by decide +kernel))
theorem wc_X0_part : Cond.code yX0_part cX0_part 10 (some .long) ∈ UW := (uw_t 854 (by decide +kernel) (by decide +kernel))
theorem wp_X0_part : yX0_part.cls ≠ "java/lang/invoke/MethodHandle" ∧ yX0_part.cls ≠ "java/lang/invoke/VarHandle" ∧ (parseMethodDescriptor yX0_part.desc).map (fun d => d.parameters.length) = some 2 := by decide +kernel
theorem wt_X0_part : Cond.static yX0_part ∈ UW := (uw_t 853 (by decide +kernel) (by decide +kernel))
theorem ms_RX10_194 : MS RX10 194 yX0_part cX0_part 10 (some .long) 2 := ⟨⟨(uw_t 852 (by decide +kernel) (by decide +kernel)), wt_X0_part, wi_RX0, wc_X0_part⟩, wp_X0_part⟩
theorem ms_RX10_229 : MS RX10 229 yX10_bitAt cX10_bitAt 4 (some .int) 2 := ⟨⟨(uw_t 976 (by decide +kernel) (by decide +kernel)), wt_X10_bitAt, wi_RX10, wc_X10_bitAt⟩, wp_X10_bitAt⟩
theorem wc_X10_longestClimb : Cond.code yX10_longestClimb cX10_longestClimb 5 (some .int) ∈ UW := (uw_t 1066 (by decide +kernel) (by decide +kernel))
theorem wp_X10_longestClimb : yX10_longestClimb.cls ≠ "java/lang/invoke/MethodHandle" ∧ yX10_longestClimb.cls ≠ "java/lang/invoke/VarHandle" ∧ (parseMethodDescriptor yX10_longestClimb.desc).map (fun d => d.parameters.length) = some 1 := by decide +kernel
theorem wt_X10_longestClimb : Cond.static yX10_longestClimb ∈ UW := (uw_t 1065 (by decide +kernel) (by decide +kernel))
theorem ms_RX10_275 : MS RX10 275 yX10_longestClimb cX10_longestClimb 5 (some .int) 1 := ⟨⟨(uw_t 1064 (by decide +kernel) (by decide +kernel)), wt_X10_longestClimb, wi_RX10, wc_X10_longestClimb⟩, wp_X10_longestClimb⟩
theorem wc_X10_longestEcho : Cond.code yX10_longestEcho cX10_longestEcho 4 (some .int) ∈ UW := (uw_t 1070 (by decide +kernel) (by decide +kernel))
theorem wp_X10_longestEcho : yX10_longestEcho.cls ≠ "java/lang/invoke/MethodHandle" ∧ yX10_longestEcho.cls ≠ "java/lang/invoke/VarHandle" ∧ (parseMethodDescriptor yX10_longestEcho.desc).map (fun d => d.parameters.length) = some 1 := by decide +kernel
theorem wt_X10_longestEcho : Cond.static yX10_longestEcho ∈ UW := (uw_t 1069 (by decide +kernel) (by decide +kernel))
theorem ms_RX10_278 : MS RX10 278 yX10_longestEcho cX10_longestEcho 4 (some .int) 1 := ⟨⟨(uw_t 1068 (by decide +kernel) (by decide +kernel)), wt_X10_longestEcho, wi_RX10, wc_X10_longestEcho⟩, wp_X10_longestEcho⟩
theorem wc_X10_smallestChoir : Cond.code yX10_smallestChoir cX10_smallestChoir 5 (some .int) ∈ UW := (uw_t 1112 (by decide +kernel) (by decide +kernel))
theorem wp_X10_smallestChoir : yX10_smallestChoir.cls ≠ "java/lang/invoke/MethodHandle" ∧ yX10_smallestChoir.cls ≠ "java/lang/invoke/VarHandle" ∧ (parseMethodDescriptor yX10_smallestChoir.desc).map (fun d => d.parameters.length) = some 1 := by decide +kernel
theorem wt_X10_smallestChoir : Cond.static yX10_smallestChoir ∈ UW := (uw_t 1111 (by decide +kernel) (by decide +kernel))
theorem ms_RX10_303 : MS RX10 303 yX10_smallestChoir cX10_smallestChoir 5 (some .int) 1 := ⟨⟨(uw_t 1110 (by decide +kernel) (by decide +kernel)), wt_X10_smallestChoir, wi_RX10, wc_X10_smallestChoir⟩, wp_X10_smallestChoir⟩
theorem ms_RX10_338 : MS RX10 338 yX10_at cX10_at 2 (some .int) 2 := ⟨⟨(uw_t 668 (by decide +kernel) (by decide +kernel)), wt_X10_at, wi_RX10, wc_X10_at⟩, wp_X10_at⟩
theorem wi_RX11 : Cond.initialized RX11 ∈ UW := (uw_t 13 (by decide +kernel) (by decide +kernel))
theorem wc_X11_wordOf : Cond.code yX11_wordOf cX11_wordOf 2 (some .int) ∈ UW := (uw_t 1373 (by decide +kernel) (by decide +kernel))
theorem wp_X11_wordOf : yX11_wordOf.cls ≠ "java/lang/invoke/MethodHandle" ∧ yX11_wordOf.cls ≠ "java/lang/invoke/VarHandle" ∧ (parseMethodDescriptor yX11_wordOf.desc).map (fun d => d.parameters.length) = some 1 := by decide +kernel
theorem wt_X11_wordOf : Cond.static yX11_wordOf ∈ UW := (uw_t 1372 (by decide +kernel) (by decide +kernel))
theorem ms_RX11_103 : MS RX11 103 yX11_wordOf cX11_wordOf 2 (some .int) 1 := ⟨⟨(uw_t 1371 (by decide +kernel) (by decide +kernel)), wt_X11_wordOf, wi_RX11, wc_X11_wordOf⟩, wp_X11_wordOf⟩
theorem wc_X11_isDigit : Cond.code yX11_isDigit cX11_isDigit 1 (some .boolean) ∈ UW := (uw_t 1383 (by decide +kernel) (by decide +kernel))
theorem wp_X11_isDigit : yX11_isDigit.cls ≠ "java/lang/invoke/MethodHandle" ∧ yX11_isDigit.cls ≠ "java/lang/invoke/VarHandle" ∧ (parseMethodDescriptor yX11_isDigit.desc).map (fun d => d.parameters.length) = some 1 := by decide +kernel
theorem wt_X11_isDigit : Cond.static yX11_isDigit ∈ UW := (uw_t 1382 (by decide +kernel) (by decide +kernel))
theorem ms_RX11_110 : MS RX11 110 yX11_isDigit cX11_isDigit 1 (some .boolean) 1 := ⟨⟨(uw_t 1381 (by decide +kernel) (by decide +kernel)), wt_X11_isDigit, wi_RX11, wc_X11_isDigit⟩, wp_X11_isDigit⟩
theorem wc_X11_isIn : Cond.code yX11_isIn cX11_isIn 3 (some .boolean) ∈ UW := (uw_t 1353 (by decide +kernel) (by decide +kernel))
theorem wp_X11_isIn : yX11_isIn.cls ≠ "java/lang/invoke/MethodHandle" ∧ yX11_isIn.cls ≠ "java/lang/invoke/VarHandle" ∧ (parseMethodDescriptor yX11_isIn.desc).map (fun d => d.parameters.length) = some 3 := by decide +kernel
theorem wt_X11_isIn : Cond.static yX11_isIn ∈ UW := (uw_t 1352 (by decide +kernel) (by decide +kernel))
theorem ms_RX11_123 : MS RX11 123 yX11_isIn cX11_isIn 3 (some .boolean) 3 := ⟨⟨(uw_t 1351 (by decide +kernel) (by decide +kernel)), wt_X11_isIn, wi_RX11, wc_X11_isIn⟩, wp_X11_isIn⟩
theorem wc_X11_sizeOf : Cond.code yX11_sizeOf cX11_sizeOf 1 (some .int) ∈ UW := (uw_t 1434 (by decide +kernel) (by decide +kernel))
theorem wp_X11_sizeOf : yX11_sizeOf.cls ≠ "java/lang/invoke/MethodHandle" ∧ yX11_sizeOf.cls ≠ "java/lang/invoke/VarHandle" ∧ (parseMethodDescriptor yX11_sizeOf.desc).map (fun d => d.parameters.length) = some 1 := by decide +kernel
theorem wt_X11_sizeOf : Cond.static yX11_sizeOf ∈ UW := (uw_t 1433 (by decide +kernel) (by decide +kernel))
theorem ms_RX11_176 : MS RX11 176 yX11_sizeOf cX11_sizeOf 1 (some .int) 1 := ⟨⟨(uw_t 1432 (by decide +kernel) (by decide +kernel)), wt_X11_sizeOf, wi_RX11, wc_X11_sizeOf⟩, wp_X11_sizeOf⟩
theorem wc_X11_placeOf : Cond.code yX11_placeOf cX11_placeOf 2 (some .int) ∈ UW := (uw_t 1437 (by decide +kernel) (by decide +kernel))
theorem wp_X11_placeOf : yX11_placeOf.cls ≠ "java/lang/invoke/MethodHandle" ∧ yX11_placeOf.cls ≠ "java/lang/invoke/VarHandle" ∧ (parseMethodDescriptor yX11_placeOf.desc).map (fun d => d.parameters.length) = some 2 := by decide +kernel
theorem wt_X11_placeOf : Cond.static yX11_placeOf ∈ UW := (uw_t 1436 (by decide +kernel) (by decide +kernel))
theorem ms_RX11_179 : MS RX11 179 yX11_placeOf cX11_placeOf 2 (some .int) 2 := ⟨⟨(uw_t 1435 (by decide +kernel) (by decide +kernel)), wt_X11_placeOf, wi_RX11, wc_X11_placeOf⟩, wp_X11_placeOf⟩
theorem wc_X11_bitsOf : Cond.code yX11_bitsOf cX11_bitsOf 3 (some .int) ∈ UW := (uw_t 1521 (by decide +kernel) (by decide +kernel))
theorem wp_X11_bitsOf : yX11_bitsOf.cls ≠ "java/lang/invoke/MethodHandle" ∧ yX11_bitsOf.cls ≠ "java/lang/invoke/VarHandle" ∧ (parseMethodDescriptor yX11_bitsOf.desc).map (fun d => d.parameters.length) = some 1 := by decide +kernel
theorem wt_X11_bitsOf : Cond.static yX11_bitsOf ∈ UW := (uw_t 1520 (by decide +kernel) (by decide +kernel))
theorem ms_RX11_255 : MS RX11 255 yX11_bitsOf cX11_bitsOf 3 (some .int) 1 := ⟨⟨(uw_t 1519 (by decide +kernel) (by decide +kernel)), wt_X11_bitsOf, wi_RX11, wc_X11_bitsOf⟩, wp_X11_bitsOf⟩
theorem wc_X11_tens : Cond.code yX11_tens cX11_tens 4 (some .long) ∈ UW := (uw_t 1614 (by decide +kernel) (by decide +kernel))
theorem wp_X11_tens : yX11_tens.cls ≠ "java/lang/invoke/MethodHandle" ∧ yX11_tens.cls ≠ "java/lang/invoke/VarHandle" ∧ (parseMethodDescriptor yX11_tens.desc).map (fun d => d.parameters.length) = some 1 := by decide +kernel
theorem wt_X11_tens : Cond.static yX11_tens ∈ UW := (uw_t 1613 (by decide +kernel) (by decide +kernel))
theorem ms_RX11_294 : MS RX11 294 yX11_tens cX11_tens 4 (some .long) 1 := ⟨⟨(uw_t 1612 (by decide +kernel) (by decide +kernel)), wt_X11_tens, wi_RX11, wc_X11_tens⟩, wp_X11_tens⟩
theorem wc_X11_common : Cond.code yX11_common cX11_common 10 (some .long) ∈ UW := (uw_t 1626 (by decide +kernel) (by decide +kernel))
theorem wp_X11_common : yX11_common.cls ≠ "java/lang/invoke/MethodHandle" ∧ yX11_common.cls ≠ "java/lang/invoke/VarHandle" ∧ (parseMethodDescriptor yX11_common.desc).map (fun d => d.parameters.length) = some 2 := by decide +kernel
theorem wt_X11_common : Cond.static yX11_common ∈ UW := (uw_t 1625 (by decide +kernel) (by decide +kernel))
theorem ms_RX11_310 : MS RX11 310 yX11_common cX11_common 10 (some .long) 2 := ⟨⟨(uw_t 1624 (by decide +kernel) (by decide +kernel)), wt_X11_common, wi_RX11, wc_X11_common⟩, wp_X11_common⟩
theorem wc_X11_four : Cond.code yX11_four cX11_four 4 (some .long) ∈ UW := (uw_t 1379 (by decide +kernel) (by decide +kernel))
theorem wp_X11_four : yX11_four.cls ≠ "java/lang/invoke/MethodHandle" ∧ yX11_four.cls ≠ "java/lang/invoke/VarHandle" ∧ (parseMethodDescriptor yX11_four.desc).map (fun d => d.parameters.length) = some 4 := by decide +kernel
theorem wt_X11_four : Cond.static yX11_four ∈ UW := (uw_t 1378 (by decide +kernel) (by decide +kernel))
theorem ms_RX11_72 : MS RX11 72 yX11_four cX11_four 4 (some .long) 4 := ⟨⟨(uw_t 1377 (by decide +kernel) (by decide +kernel)), wt_X11_four, wi_RX11, wc_X11_four⟩, wp_X11_four⟩
theorem wc_X11_eight : Cond.code yX11_eight cX11_eight 8 (some .long) ∈ UW := (uw_t 1376 (by decide +kernel) (by decide +kernel))
theorem wp_X11_eight : yX11_eight.cls ≠ "java/lang/invoke/MethodHandle" ∧ yX11_eight.cls ≠ "java/lang/invoke/VarHandle" ∧ (parseMethodDescriptor yX11_eight.desc).map (fun d => d.parameters.length) = some 8 := by decide +kernel
theorem wt_X11_eight : Cond.static yX11_eight ∈ UW := (uw_t 1375 (by decide +kernel) (by decide +kernel))
theorem ms_RX11_78 : MS RX11 78 yX11_eight cX11_eight 8 (some .long) 8 := ⟨⟨(uw_t 1374 (by decide +kernel) (by decide +kernel)), wt_X11_eight, wi_RX11, wc_X11_eight⟩, wp_X11_eight⟩
theorem wc_X11_isLetter : Cond.code yX11_isLetter cX11_isLetter 1 (some .boolean) ∈ UW := (uw_t 1368 (by decide +kernel) (by decide +kernel))
theorem wp_X11_isLetter : yX11_isLetter.cls ≠ "java/lang/invoke/MethodHandle" ∧ yX11_isLetter.cls ≠ "java/lang/invoke/VarHandle" ∧ (parseMethodDescriptor yX11_isLetter.desc).map (fun d => d.parameters.length) = some 1 := by decide +kernel
theorem wt_X11_isLetter : Cond.static yX11_isLetter ∈ UW := (uw_t 1367 (by decide +kernel) (by decide +kernel))
theorem ms_RX11_95 : MS RX11 95 yX11_isLetter cX11_isLetter 1 (some .boolean) 1 := ⟨⟨(uw_t 1366 (by decide +kernel) (by decide +kernel)), wt_X11_isLetter, wi_RX11, wc_X11_isLetter⟩, wp_X11_isLetter⟩
theorem wi_RX2 : Cond.initialized RX2 ∈ UW := (uw_t 12 (by decide +kernel) (by decide +kernel))
theorem wc_X2_agree : Cond.code yX2_agree cX2_agree 5 (some .boolean) ∈ UW := (uw_t 974 (by decide +kernel) (by decide +kernel))
theorem wp_X2_agree : yX2_agree.cls ≠ "java/lang/invoke/MethodHandle" ∧ yX2_agree.cls ≠ "java/lang/invoke/VarHandle" ∧ (parseMethodDescriptor yX2_agree.desc).map (fun d => d.parameters.length) = some 2 := by decide +kernel
theorem wt_X2_agree : Cond.static yX2_agree ∈ UW := (uw_t 973 (by decide +kernel) (by decide +kernel))
theorem ms_RX2_31 : MS RX2 31 yX2_agree cX2_agree 5 (some .boolean) 2 := ⟨⟨(uw_t 972 (by decide +kernel) (by decide +kernel)), wt_X2_agree, wi_RX2, wc_X2_agree⟩, wp_X2_agree⟩
theorem wi_RJ7 : Cond.initialized RJ7 ∈ UW := (uw_t 19 (by decide +kernel) (by decide +kernel))
theorem wc_J7_fill_53178 : Cond.code yJ7_fill_53178 cJ7_fill_53178 4 none ∈ UW := (uw_t 683 (by decide +kernel) (by decide +kernel))
theorem wp_J7_fill_53178 : yJ7_fill_53178.cls ≠ "java/lang/invoke/MethodHandle" ∧ yJ7_fill_53178.cls ≠ "java/lang/invoke/VarHandle" ∧ (parseMethodDescriptor yJ7_fill_53178.desc).map (fun d => d.parameters.length) = some 2 := by decide +kernel
theorem wt_J7_fill_53178 : Cond.static yJ7_fill_53178 ∈ UW := (uw_t 682 (by decide +kernel) (by decide +kernel))
theorem ms_RX3_74 : MS RX3 74 yJ7_fill_53178 cJ7_fill_53178 4 none 2 := ⟨⟨(uw_t 681 (by decide +kernel) (by decide +kernel)), wt_J7_fill_53178, wi_RJ7, wc_J7_fill_53178⟩, wp_J7_fill_53178⟩
theorem wi_RX4 : Cond.initialized RX4 ∈ UW := (uw_t 6 (by decide +kernel) (by decide +kernel))
theorem wc_X4_wordOf : Cond.code yX4_wordOf cX4_wordOf 1 (some (.object "java/lang/String")) ∈ UW := (uw_t 497 (by decide +kernel) (by decide +kernel))
theorem wp_X4_wordOf : yX4_wordOf.cls ≠ "java/lang/invoke/MethodHandle" ∧ yX4_wordOf.cls ≠ "java/lang/invoke/VarHandle" ∧ (parseMethodDescriptor yX4_wordOf.desc).map (fun d => d.parameters.length) = some 1 := by decide +kernel
theorem wt_X4_wordOf : Cond.static yX4_wordOf ∈ UW := (uw_t 496 (by decide +kernel) (by decide +kernel))
theorem ms_RX4_134 : MS RX4 134 yX4_wordOf cX4_wordOf 1 (some (.object "java/lang/String")) 1 := ⟨⟨(uw_t 495 (by decide +kernel) (by decide +kernel)), wt_X4_wordOf, wi_RX4, wc_X4_wordOf⟩, wp_X4_wordOf⟩
theorem wc_X4_isLetter : Cond.code yX4_isLetter cX4_isLetter 1 (some .boolean) ∈ UW := (uw_t 480 (by decide +kernel) (by decide +kernel))
theorem wp_X4_isLetter : yX4_isLetter.cls ≠ "java/lang/invoke/MethodHandle" ∧ yX4_isLetter.cls ≠ "java/lang/invoke/VarHandle" ∧ (parseMethodDescriptor yX4_isLetter.desc).map (fun d => d.parameters.length) = some 1 := by decide +kernel
theorem wt_X4_isLetter : Cond.static yX4_isLetter ∈ UW := (uw_t 479 (by decide +kernel) (by decide +kernel))
theorem ms_RX4_178 : MS RX4 178 yX4_isLetter cX4_isLetter 1 (some .boolean) 1 := ⟨⟨(uw_t 478 (by decide +kernel) (by decide +kernel)), wt_X4_isLetter, wi_RX4, wc_X4_isLetter⟩, wp_X4_isLetter⟩
theorem wc_X4_isDigit : Cond.code yX4_isDigit cX4_isDigit 1 (some .boolean) ∈ UW := (uw_t 483 (by decide +kernel) (by decide +kernel))
theorem wp_X4_isDigit : yX4_isDigit.cls ≠ "java/lang/invoke/MethodHandle" ∧ yX4_isDigit.cls ≠ "java/lang/invoke/VarHandle" ∧ (parseMethodDescriptor yX4_isDigit.desc).map (fun d => d.parameters.length) = some 1 := by decide +kernel
theorem wt_X4_isDigit : Cond.static yX4_isDigit ∈ UW := (uw_t 482 (by decide +kernel) (by decide +kernel))
theorem ms_RX4_182 : MS RX4 182 yX4_isDigit cX4_isDigit 1 (some .boolean) 1 := ⟨⟨(uw_t 481 (by decide +kernel) (by decide +kernel)), wt_X4_isDigit, wi_RX4, wc_X4_isDigit⟩, wp_X4_isDigit⟩
theorem ms_RX5_99 : MS RX5 99 yJ6_bitCount_0f7a4 cJ6_bitCount_0f7a4 1 (some .int) 1 := ⟨⟨(uw_t 801 (by decide +kernel) (by decide +kernel)), wt_J6_bitCount_0f7a4, wi_RJ6, wc_J6_bitCount_0f7a4⟩, wp_J6_bitCount_0f7a4⟩
theorem wi_RX1 : Cond.initialized RX1 ∈ UW := (uw_t 3 (by decide +kernel) (by decide +kernel))
theorem wc_X1_sounds : Cond.code yX1_sounds cX1_sounds 2 (some .boolean) ∈ UW := (uw_t 695 (by decide +kernel) (by decide +kernel))
theorem wp_X1_sounds : yX1_sounds.cls ≠ "java/lang/invoke/MethodHandle" ∧ yX1_sounds.cls ≠ "java/lang/invoke/VarHandle" ∧ (parseMethodDescriptor yX1_sounds.desc).map (fun d => d.parameters.length) = some 1 := by decide +kernel
theorem wm_X1_sounds : Cond.instanceMethod yX1_sounds ∈ UW := (uw_t 693 (by decide +kernel) (by decide +kernel))
theorem ws_X1_sounds : Cond.selects yX1_sounds.cls yX1_sounds yX1_sounds ∈ UW := (uw_t 694 (by decide +kernel) (by decide +kernel))
theorem mv_RX0_33 : MV RX0 33 yX1_sounds cX1_sounds 2 (some .boolean) 1 := ⟨⟨(uw_t 850 (by decide +kernel) (by decide +kernel)), wm_X1_sounds, ws_X1_sounds, wi_RX1, wc_X1_sounds⟩, wp_X1_sounds⟩
theorem wc_X0_asleep : Cond.code yX0_asleep cX0_asleep 6 (some .long) ∈ UW := (uw_t 849 (by decide +kernel) (by decide +kernel))
theorem wp_X0_asleep : yX0_asleep.cls ≠ "java/lang/invoke/MethodHandle" ∧ yX0_asleep.cls ≠ "java/lang/invoke/VarHandle" ∧ (parseMethodDescriptor yX0_asleep.desc).map (fun d => d.parameters.length) = some 1 := by decide +kernel
theorem wm_X0_asleep : Cond.instanceMethod yX0_asleep ∈ UW := (uw_t 847 (by decide +kernel) (by decide +kernel))
theorem ws_X0_asleep : Cond.selects yX0_asleep.cls yX0_asleep yX0_asleep ∈ UW := (uw_t 848 (by decide +kernel) (by decide +kernel))
theorem mv_RX0_53 : MV RX0 53 yX0_asleep cX0_asleep 6 (some .long) 1 := ⟨⟨(uw_t 846 (by decide +kernel) (by decide +kernel)), wm_X0_asleep, ws_X0_asleep, wi_RX0, wc_X0_asleep⟩, wp_X0_asleep⟩
theorem wc_X1_from : Cond.code yX1_from cX1_from 2 (some .int) ∈ UW := (uw_t 725 (by decide +kernel) (by decide +kernel))
theorem wp_X1_from : yX1_from.cls ≠ "java/lang/invoke/MethodHandle" ∧ yX1_from.cls ≠ "java/lang/invoke/VarHandle" ∧ (parseMethodDescriptor yX1_from.desc).map (fun d => d.parameters.length) = some 1 := by decide +kernel
theorem wm_X1_from : Cond.instanceMethod yX1_from ∈ UW := (uw_t 723 (by decide +kernel) (by decide +kernel))
theorem ws_X1_from : Cond.selects yX1_from.cls yX1_from yX1_from ∈ UW := (uw_t 724 (by decide +kernel) (by decide +kernel))
theorem mv_RX0_57 : MV RX0 57 yX1_from cX1_from 2 (some .int) 1 := ⟨⟨(uw_t 1090 (by decide +kernel) (by decide +kernel)), wm_X1_from, ws_X1_from, wi_RX1, wc_X1_from⟩, wp_X1_from⟩
theorem wc_X1_peopleOf : Cond.code yX1_peopleOf cX1_peopleOf 4 (some .int) ∈ UW := (uw_t 734 (by decide +kernel) (by decide +kernel))
theorem wp_X1_peopleOf : yX1_peopleOf.cls ≠ "java/lang/invoke/MethodHandle" ∧ yX1_peopleOf.cls ≠ "java/lang/invoke/VarHandle" ∧ (parseMethodDescriptor yX1_peopleOf.desc).map (fun d => d.parameters.length) = some 1 := by decide +kernel
theorem wm_X1_peopleOf : Cond.instanceMethod yX1_peopleOf ∈ UW := (uw_t 732 (by decide +kernel) (by decide +kernel))
theorem ws_X1_peopleOf : Cond.selects yX1_peopleOf.cls yX1_peopleOf yX1_peopleOf ∈ UW := (uw_t 733 (by decide +kernel) (by decide +kernel))
theorem mv_RX0_61 : MV RX0 61 yX1_peopleOf cX1_peopleOf 4 (some .int) 1 := ⟨⟨(uw_t 1091 (by decide +kernel) (by decide +kernel)), wm_X1_peopleOf, ws_X1_peopleOf, wi_RX1, wc_X1_peopleOf⟩, wp_X1_peopleOf⟩
theorem wc_X0_mean : Cond.code yX0_mean cX0_mean 4 (some .long) ∈ UW := (uw_t 843 (by decide +kernel) (by decide +kernel))
theorem wp_X0_mean : yX0_mean.cls ≠ "java/lang/invoke/MethodHandle" ∧ yX0_mean.cls ≠ "java/lang/invoke/VarHandle" ∧ (parseMethodDescriptor yX0_mean.desc).map (fun d => d.parameters.length) = some 0 := by decide +kernel
theorem wm_X0_mean : Cond.instanceMethod yX0_mean ∈ UW := (uw_t 841 (by decide +kernel) (by decide +kernel))
theorem ws_X0_mean : Cond.selects yX0_mean.cls yX0_mean yX0_mean ∈ UW := (uw_t 842 (by decide +kernel) (by decide +kernel))
theorem mv_RX0_64 : MV RX0 64 yX0_mean cX0_mean 4 (some .long) 0 := ⟨⟨(uw_t 864 (by decide +kernel) (by decide +kernel)), wm_X0_mean, ws_X0_mean, wi_RX0, wc_X0_mean⟩, wp_X0_mean⟩
theorem wc_X0_swap : Cond.code yX0_swap cX0_swap 4 none ∈ UW := (uw_t 868 (by decide +kernel) (by decide +kernel))
theorem wp_X0_swap : yX0_swap.cls ≠ "java/lang/invoke/MethodHandle" ∧ yX0_swap.cls ≠ "java/lang/invoke/VarHandle" ∧ (parseMethodDescriptor yX0_swap.desc).map (fun d => d.parameters.length) = some 2 := by decide +kernel
theorem wm_X0_swap : Cond.instanceMethod yX0_swap ∈ UW := (uw_t 867 (by decide +kernel) (by decide +kernel))
theorem ws_X0_swap : Cond.selects yX0_swap.cls yX0_swap yX0_swap ∈ UW := (uw_s 25 (by decide +kernel) (by decide +kernel))
theorem mv_RX0_71 : MV RX0 71 yX0_swap cX0_swap 4 none 2 := ⟨⟨(uw_t 865 (by decide +kernel) (by decide +kernel)), wm_X0_swap, ws_X0_swap, wi_RX0, wc_X0_swap⟩, wp_X0_swap⟩
theorem wi_RX7 : Cond.initialized RX7 ∈ UW := (uw_t 2 (by decide +kernel) (by decide +kernel))
theorem wc_X7_keep : Cond.code yX7_keep cX7_keep 5 none ∈ UW := (uw_t 614 (by decide +kernel) (by decide +kernel))
theorem wp_X7_keep : yX7_keep.cls ≠ "java/lang/invoke/MethodHandle" ∧ yX7_keep.cls ≠ "java/lang/invoke/VarHandle" ∧ (parseMethodDescriptor yX7_keep.desc).map (fun d => d.parameters.length) = some 4 := by decide +kernel
theorem wm_X7_keep : Cond.instanceMethod yX7_keep ∈ UW := (uw_t 612 (by decide +kernel) (by decide +kernel))
theorem ws_X7_keep : Cond.selects yX7_keep.cls yX7_keep yX7_keep ∈ UW := (uw_t 613 (by decide +kernel) (by decide +kernel))
theorem mv_RX10_109 : MV RX10 109 yX7_keep cX7_keep 5 none 4 := ⟨⟨(uw_t 611 (by decide +kernel) (by decide +kernel)), wm_X7_keep, ws_X7_keep, wi_RX7, wc_X7_keep⟩, wp_X7_keep⟩
theorem wc_X7_houseAt : Cond.code yX7_houseAt cX7_houseAt 2 (some (.object RX1)) ∈ UW := (uw_t 640 (by decide +kernel) (by decide +kernel))
theorem wp_X7_houseAt : yX7_houseAt.cls ≠ "java/lang/invoke/MethodHandle" ∧ yX7_houseAt.cls ≠ "java/lang/invoke/VarHandle" ∧ (parseMethodDescriptor yX7_houseAt.desc).map (fun d => d.parameters.length) = some 1 := by decide +kernel
theorem wm_X7_houseAt : Cond.instanceMethod yX7_houseAt ∈ UW := (uw_t 638 (by decide +kernel) (by decide +kernel))
theorem ws_X7_houseAt : Cond.selects yX7_houseAt.cls yX7_houseAt yX7_houseAt ∈ UW := (uw_t 639 (by decide +kernel) (by decide +kernel))
theorem mv_RX10_113 : MV RX10 113 yX7_houseAt cX7_houseAt 2 (some (.object RX1)) 1 := ⟨⟨(uw_t 637 (by decide +kernel) (by decide +kernel)), wm_X7_houseAt, ws_X7_houseAt, wi_RX7, wc_X7_houseAt⟩, wp_X7_houseAt⟩
theorem wc_X1_detail : Cond.code yX1_detail cX1_detail 3 (some .int) ∈ UW := (uw_t 644 (by decide +kernel) (by decide +kernel))
theorem wp_X1_detail : yX1_detail.cls ≠ "java/lang/invoke/MethodHandle" ∧ yX1_detail.cls ≠ "java/lang/invoke/VarHandle" ∧ (parseMethodDescriptor yX1_detail.desc).map (fun d => d.parameters.length) = some 1 := by decide +kernel
theorem wm_X1_detail : Cond.instanceMethod yX1_detail ∈ UW := (uw_t 642 (by decide +kernel) (by decide +kernel))
theorem ws_X1_detail : Cond.selects yX1_detail.cls yX1_detail yX1_detail ∈ UW := (uw_t 643 (by decide +kernel) (by decide +kernel))
theorem mv_RX10_134 : MV RX10 134 yX1_detail cX1_detail 3 (some .int) 1 := ⟨⟨(uw_t 641 (by decide +kernel) (by decide +kernel)), wm_X1_detail, ws_X1_detail, wi_RX1, wc_X1_detail⟩, wp_X1_detail⟩
theorem wc_X7_nightsAt : Cond.code yX7_nightsAt cX7_nightsAt 2 (some (.object RX6)) ∈ UW := (uw_t 664 (by decide +kernel) (by decide +kernel))
theorem wp_X7_nightsAt : yX7_nightsAt.cls ≠ "java/lang/invoke/MethodHandle" ∧ yX7_nightsAt.cls ≠ "java/lang/invoke/VarHandle" ∧ (parseMethodDescriptor yX7_nightsAt.desc).map (fun d => d.parameters.length) = some 1 := by decide +kernel
theorem wm_X7_nightsAt : Cond.instanceMethod yX7_nightsAt ∈ UW := (uw_t 662 (by decide +kernel) (by decide +kernel))
theorem ws_X7_nightsAt : Cond.selects yX7_nightsAt.cls yX7_nightsAt yX7_nightsAt ∈ UW := (uw_t 663 (by decide +kernel) (by decide +kernel))
theorem mv_RX10_138 : MV RX10 138 yX7_nightsAt cX7_nightsAt 2 (some (.object RX6)) 1 := ⟨⟨(uw_t 661 (by decide +kernel) (by decide +kernel)), wm_X7_nightsAt, ws_X7_nightsAt, wi_RX7, wc_X7_nightsAt⟩, wp_X7_nightsAt⟩
theorem wi_RX3 : Cond.initialized RX3 ∈ UW := (uw_t 8 (by decide +kernel) (by decide +kernel))
theorem wc_X3_play : Cond.code yX3_play cX3_play 5 (some .int) ∈ UW := (uw_t 676 (by decide +kernel) (by decide +kernel))
theorem wp_X3_play : yX3_play.cls ≠ "java/lang/invoke/MethodHandle" ∧ yX3_play.cls ≠ "java/lang/invoke/VarHandle" ∧ (parseMethodDescriptor yX3_play.desc).map (fun d => d.parameters.length) = some 3 := by decide +kernel
theorem wm_X3_play : Cond.instanceMethod yX3_play ∈ UW := (uw_t 674 (by decide +kernel) (by decide +kernel))
theorem ws_X3_play : Cond.selects yX3_play.cls yX3_play yX3_play ∈ UW := (uw_t 675 (by decide +kernel) (by decide +kernel))
theorem mv_RX10_149 : MV RX10 149 yX3_play cX3_play 5 (some .int) 3 := ⟨⟨(uw_t 673 (by decide +kernel) (by decide +kernel)), wm_X3_play, ws_X3_play, wi_RX3, wc_X3_play⟩, wp_X3_play⟩
theorem wc_X3_look : Cond.code yX3_look cX3_look 2 (some .int) ∈ UW := (uw_t 746 (by decide +kernel) (by decide +kernel))
theorem wp_X3_look : yX3_look.cls ≠ "java/lang/invoke/MethodHandle" ∧ yX3_look.cls ≠ "java/lang/invoke/VarHandle" ∧ (parseMethodDescriptor yX3_look.desc).map (fun d => d.parameters.length) = some 1 := by decide +kernel
theorem wm_X3_look : Cond.instanceMethod yX3_look ∈ UW := (uw_t 744 (by decide +kernel) (by decide +kernel))
theorem ws_X3_look : Cond.selects yX3_look.cls yX3_look yX3_look ∈ UW := (uw_t 745 (by decide +kernel) (by decide +kernel))
theorem mv_RX10_153 : MV RX10 153 yX3_look cX3_look 2 (some .int) 1 := ⟨⟨(uw_t 743 (by decide +kernel) (by decide +kernel)), wm_X3_look, ws_X3_look, wi_RX3, wc_X3_look⟩, wp_X3_look⟩
theorem wc_X1_hasBar : Cond.code yX1_hasBar cX1_hasBar 2 (some .boolean) ∈ UW := (uw_t 652 (by decide +kernel) (by decide +kernel))
theorem wp_X1_hasBar : yX1_hasBar.cls ≠ "java/lang/invoke/MethodHandle" ∧ yX1_hasBar.cls ≠ "java/lang/invoke/VarHandle" ∧ (parseMethodDescriptor yX1_hasBar.desc).map (fun d => d.parameters.length) = some 1 := by decide +kernel
theorem wm_X1_hasBar : Cond.instanceMethod yX1_hasBar ∈ UW := (uw_t 650 (by decide +kernel) (by decide +kernel))
theorem ws_X1_hasBar : Cond.selects yX1_hasBar.cls yX1_hasBar yX1_hasBar ∈ UW := (uw_t 651 (by decide +kernel) (by decide +kernel))
theorem mv_RX10_156 : MV RX10 156 yX1_hasBar cX1_hasBar 2 (some .boolean) 1 := ⟨⟨(uw_t 751 (by decide +kernel) (by decide +kernel)), wm_X1_hasBar, ws_X1_hasBar, wi_RX1, wc_X1_hasBar⟩, wp_X1_hasBar⟩
theorem wi_RX5 : Cond.initialized RX5 ∈ UW := (uw_t 7 (by decide +kernel) (by decide +kernel))
theorem wc_X5_finds : Cond.code yX5_finds cX5_finds 2 (some .boolean) ∈ UW := (uw_t 755 (by decide +kernel) (by decide +kernel))
theorem wp_X5_finds : yX5_finds.cls ≠ "java/lang/invoke/MethodHandle" ∧ yX5_finds.cls ≠ "java/lang/invoke/VarHandle" ∧ (parseMethodDescriptor yX5_finds.desc).map (fun d => d.parameters.length) = some 1 := by decide +kernel
theorem wm_X5_finds : Cond.instanceMethod yX5_finds ∈ UW := (uw_t 753 (by decide +kernel) (by decide +kernel))
theorem ws_X5_finds : Cond.selects yX5_finds.cls yX5_finds yX5_finds ∈ UW := (uw_t 754 (by decide +kernel) (by decide +kernel))
theorem mv_RX10_160 : MV RX10 160 yX5_finds cX5_finds 2 (some .boolean) 1 := ⟨⟨(uw_t 752 (by decide +kernel) (by decide +kernel)), wm_X5_finds, ws_X5_finds, wi_RX5, wc_X5_finds⟩, wp_X5_finds⟩
theorem wc_X5_singerOf : Cond.code yX5_singerOf cX5_singerOf 2 (some .int) ∈ UW := (uw_t 788 (by decide +kernel) (by decide +kernel))
theorem wp_X5_singerOf : yX5_singerOf.cls ≠ "java/lang/invoke/MethodHandle" ∧ yX5_singerOf.cls ≠ "java/lang/invoke/VarHandle" ∧ (parseMethodDescriptor yX5_singerOf.desc).map (fun d => d.parameters.length) = some 1 := by decide +kernel
theorem wm_X5_singerOf : Cond.instanceMethod yX5_singerOf ∈ UW := (uw_t 786 (by decide +kernel) (by decide +kernel))
theorem ws_X5_singerOf : Cond.selects yX5_singerOf.cls yX5_singerOf yX5_singerOf ∈ UW := (uw_t 787 (by decide +kernel) (by decide +kernel))
theorem mv_RX10_164 : MV RX10 164 yX5_singerOf cX5_singerOf 2 (some .int) 1 := ⟨⟨(uw_t 785 (by decide +kernel) (by decide +kernel)), wm_X5_singerOf, ws_X5_singerOf, wi_RX5, wc_X5_singerOf⟩, wp_X5_singerOf⟩
theorem wc_X5_fewest : Cond.code yX5_fewest cX5_fewest 4 (some .int) ∈ UW := (uw_t 796 (by decide +kernel) (by decide +kernel))
theorem wp_X5_fewest : yX5_fewest.cls ≠ "java/lang/invoke/MethodHandle" ∧ yX5_fewest.cls ≠ "java/lang/invoke/VarHandle" ∧ (parseMethodDescriptor yX5_fewest.desc).map (fun d => d.parameters.length) = some 1 := by decide +kernel
theorem wm_X5_fewest : Cond.instanceMethod yX5_fewest ∈ UW := (uw_t 794 (by decide +kernel) (by decide +kernel))
theorem ws_X5_fewest : Cond.selects yX5_fewest.cls yX5_fewest yX5_fewest ∈ UW := (uw_t 795 (by decide +kernel) (by decide +kernel))
theorem mv_RX10_167 : MV RX10 167 yX5_fewest cX5_fewest 4 (some .int) 1 := ⟨⟨(uw_t 793 (by decide +kernel) (by decide +kernel)), wm_X5_fewest, ws_X5_fewest, wi_RX5, wc_X5_fewest⟩, wp_X5_fewest⟩
theorem wc_X1_mutes : Cond.code yX1_mutes cX1_mutes 4 (some .int) ∈ UW := (uw_t 819 (by decide +kernel) (by decide +kernel))
theorem wp_X1_mutes : yX1_mutes.cls ≠ "java/lang/invoke/MethodHandle" ∧ yX1_mutes.cls ≠ "java/lang/invoke/VarHandle" ∧ (parseMethodDescriptor yX1_mutes.desc).map (fun d => d.parameters.length) = some 0 := by decide +kernel
theorem wm_X1_mutes : Cond.instanceMethod yX1_mutes ∈ UW := (uw_t 817 (by decide +kernel) (by decide +kernel))
theorem ws_X1_mutes : Cond.selects yX1_mutes.cls yX1_mutes yX1_mutes ∈ UW := (uw_t 818 (by decide +kernel) (by decide +kernel))
theorem mv_RX10_176 : MV RX10 176 yX1_mutes cX1_mutes 4 (some .int) 0 := ⟨⟨(uw_t 816 (by decide +kernel) (by decide +kernel)), wm_X1_mutes, ws_X1_mutes, wi_RX1, wc_X1_mutes⟩, wp_X1_mutes⟩
theorem wc_X5_farWith : Cond.code yX5_farWith cX5_farWith 4 (some .int) ∈ UW := (uw_t 829 (by decide +kernel) (by decide +kernel))
theorem wp_X5_farWith : yX5_farWith.cls ≠ "java/lang/invoke/MethodHandle" ∧ yX5_farWith.cls ≠ "java/lang/invoke/VarHandle" ∧ (parseMethodDescriptor yX5_farWith.desc).map (fun d => d.parameters.length) = some 2 := by decide +kernel
theorem wm_X5_farWith : Cond.instanceMethod yX5_farWith ∈ UW := (uw_t 827 (by decide +kernel) (by decide +kernel))
theorem ws_X5_farWith : Cond.selects yX5_farWith.cls yX5_farWith yX5_farWith ∈ UW := (uw_t 828 (by decide +kernel) (by decide +kernel))
theorem mv_RX10_180 : MV RX10 180 yX5_farWith cX5_farWith 4 (some .int) 2 := ⟨⟨(uw_t 826 (by decide +kernel) (by decide +kernel)), wm_X5_farWith, ws_X5_farWith, wi_RX5, wc_X5_farWith⟩, wp_X5_farWith⟩
theorem wc_X0_enter : Cond.code yX0_enter cX0_enter 2 none ∈ UW := (uw_t 838 (by decide +kernel) (by decide +kernel))
theorem wp_X0_enter : yX0_enter.cls ≠ "java/lang/invoke/MethodHandle" ∧ yX0_enter.cls ≠ "java/lang/invoke/VarHandle" ∧ (parseMethodDescriptor yX0_enter.desc).map (fun d => d.parameters.length) = some 1 := by decide +kernel
theorem wm_X0_enter : Cond.instanceMethod yX0_enter ∈ UW := (uw_t 836 (by decide +kernel) (by decide +kernel))
theorem ws_X0_enter : Cond.selects yX0_enter.cls yX0_enter yX0_enter ∈ UW := (uw_t 837 (by decide +kernel) (by decide +kernel))
theorem mv_RX10_186 : MV RX10 186 yX0_enter cX0_enter 2 none 1 := ⟨⟨(uw_t 835 (by decide +kernel) (by decide +kernel)), wm_X0_enter, ws_X0_enter, wi_RX0, wc_X0_enter⟩, wp_X0_enter⟩
theorem mv_RX10_190 : MV RX10 190 yX0_mean cX0_mean 4 (some .long) 0 := ⟨⟨(uw_t 840 (by decide +kernel) (by decide +kernel)), wm_X0_mean, ws_X0_mean, wi_RX0, wc_X0_mean⟩, wp_X0_mean⟩
theorem wc_X0_bestSwap : Cond.code yX0_bestSwap cX0_bestSwap 8 (some .int) ∈ UW := (uw_t 863 (by decide +kernel) (by decide +kernel))
theorem wp_X0_bestSwap : yX0_bestSwap.cls ≠ "java/lang/invoke/MethodHandle" ∧ yX0_bestSwap.cls ≠ "java/lang/invoke/VarHandle" ∧ (parseMethodDescriptor yX0_bestSwap.desc).map (fun d => d.parameters.length) = some 0 := by decide +kernel
theorem wm_X0_bestSwap : Cond.instanceMethod yX0_bestSwap ∈ UW := (uw_t 861 (by decide +kernel) (by decide +kernel))
theorem ws_X0_bestSwap : Cond.selects yX0_bestSwap.cls yX0_bestSwap yX0_bestSwap ∈ UW := (uw_t 862 (by decide +kernel) (by decide +kernel))
theorem mv_RX10_198 : MV RX10 198 yX0_bestSwap cX0_bestSwap 8 (some .int) 0 := ⟨⟨(uw_t 860 (by decide +kernel) (by decide +kernel)), wm_X0_bestSwap, ws_X0_bestSwap, wi_RX0, wc_X0_bestSwap⟩, wp_X0_bestSwap⟩
theorem wi_RX9 : Cond.initialized RX9 ∈ UW := (uw_t 10 (by decide +kernel) (by decide +kernel))
theorem wc_X9_play : Cond.code yX9_play cX9_play 3 none ∈ UW := (uw_t 876 (by decide +kernel) (by decide +kernel))
theorem wp_X9_play : yX9_play.cls ≠ "java/lang/invoke/MethodHandle" ∧ yX9_play.cls ≠ "java/lang/invoke/VarHandle" ∧ (parseMethodDescriptor yX9_play.desc).map (fun d => d.parameters.length) = some 2 := by decide +kernel
theorem wm_X9_play : Cond.instanceMethod yX9_play ∈ UW := (uw_t 874 (by decide +kernel) (by decide +kernel))
theorem ws_X9_play : Cond.selects yX9_play.cls yX9_play yX9_play ∈ UW := (uw_t 875 (by decide +kernel) (by decide +kernel))
theorem mv_RX10_201 : MV RX10 201 yX9_play cX9_play 3 none 2 := ⟨⟨(uw_t 873 (by decide +kernel) (by decide +kernel)), wm_X9_play, ws_X9_play, wi_RX9, wc_X9_play⟩, wp_X9_play⟩
theorem wi_RX8 : Cond.initialized RX8 ∈ UW := (uw_t 11 (by decide +kernel) (by decide +kernel))
theorem wc_X8_enter : Cond.code yX8_enter cX8_enter 2 none ∈ UW := (uw_t 900 (by decide +kernel) (by decide +kernel))
theorem wp_X8_enter : yX8_enter.cls ≠ "java/lang/invoke/MethodHandle" ∧ yX8_enter.cls ≠ "java/lang/invoke/VarHandle" ∧ (parseMethodDescriptor yX8_enter.desc).map (fun d => d.parameters.length) = some 1 := by decide +kernel
theorem wm_X8_enter : Cond.instanceMethod yX8_enter ∈ UW := (uw_t 898 (by decide +kernel) (by decide +kernel))
theorem ws_X8_enter : Cond.selects yX8_enter.cls yX8_enter yX8_enter ∈ UW := (uw_t 899 (by decide +kernel) (by decide +kernel))
theorem mv_RX10_210 : MV RX10 210 yX8_enter cX8_enter 2 none 1 := ⟨⟨(uw_t 897 (by decide +kernel) (by decide +kernel)), wm_X8_enter, ws_X8_enter, wi_RX8, wc_X8_enter⟩, wp_X8_enter⟩
theorem wc_X8_rows : Cond.code yX8_rows cX8_rows 5 (some .int) ∈ UW := (uw_t 913 (by decide +kernel) (by decide +kernel))
theorem wp_X8_rows : yX8_rows.cls ≠ "java/lang/invoke/MethodHandle" ∧ yX8_rows.cls ≠ "java/lang/invoke/VarHandle" ∧ (parseMethodDescriptor yX8_rows.desc).map (fun d => d.parameters.length) = some 0 := by decide +kernel
theorem wm_X8_rows : Cond.instanceMethod yX8_rows ∈ UW := (uw_t 911 (by decide +kernel) (by decide +kernel))
theorem ws_X8_rows : Cond.selects yX8_rows.cls yX8_rows yX8_rows ∈ UW := (uw_t 912 (by decide +kernel) (by decide +kernel))
theorem mv_RX10_211 : MV RX10 211 yX8_rows cX8_rows 5 (some .int) 0 := ⟨⟨(uw_t 910 (by decide +kernel) (by decide +kernel)), wm_X8_rows, ws_X8_rows, wi_RX8, wc_X8_rows⟩, wp_X8_rows⟩
theorem wc_X8_leastOf : Cond.code yX8_leastOf cX8_leastOf 4 (some .int) ∈ UW := (uw_t 930 (by decide +kernel) (by decide +kernel))
theorem wp_X8_leastOf : yX8_leastOf.cls ≠ "java/lang/invoke/MethodHandle" ∧ yX8_leastOf.cls ≠ "java/lang/invoke/VarHandle" ∧ (parseMethodDescriptor yX8_leastOf.desc).map (fun d => d.parameters.length) = some 1 := by decide +kernel
theorem wm_X8_leastOf : Cond.instanceMethod yX8_leastOf ∈ UW := (uw_t 928 (by decide +kernel) (by decide +kernel))
theorem ws_X8_leastOf : Cond.selects yX8_leastOf.cls yX8_leastOf yX8_leastOf ∈ UW := (uw_t 929 (by decide +kernel) (by decide +kernel))
theorem mv_RX10_213 : MV RX10 213 yX8_leastOf cX8_leastOf 4 (some .int) 1 := ⟨⟨(uw_t 927 (by decide +kernel) (by decide +kernel)), wm_X8_leastOf, ws_X8_leastOf, wi_RX8, wc_X8_leastOf⟩, wp_X8_leastOf⟩
theorem wc_X8_sureOf : Cond.code yX8_sureOf cX8_sureOf 6 (some .int) ∈ UW := (uw_t 942 (by decide +kernel) (by decide +kernel))
theorem wp_X8_sureOf : yX8_sureOf.cls ≠ "java/lang/invoke/MethodHandle" ∧ yX8_sureOf.cls ≠ "java/lang/invoke/VarHandle" ∧ (parseMethodDescriptor yX8_sureOf.desc).map (fun d => d.parameters.length) = some 1 := by decide +kernel
theorem wm_X8_sureOf : Cond.instanceMethod yX8_sureOf ∈ UW := (uw_t 940 (by decide +kernel) (by decide +kernel))
theorem ws_X8_sureOf : Cond.selects yX8_sureOf.cls yX8_sureOf yX8_sureOf ∈ UW := (uw_t 941 (by decide +kernel) (by decide +kernel))
theorem mv_RX10_216 : MV RX10 216 yX8_sureOf cX8_sureOf 6 (some .int) 1 := ⟨⟨(uw_t 939 (by decide +kernel) (by decide +kernel)), wm_X8_sureOf, ws_X8_sureOf, wi_RX8, wc_X8_sureOf⟩, wp_X8_sureOf⟩
theorem wc_X7_morningsAt : Cond.code yX7_morningsAt cX7_morningsAt 2 (some (.object RX6)) ∈ UW := (uw_t 950 (by decide +kernel) (by decide +kernel))
theorem wp_X7_morningsAt : yX7_morningsAt.cls ≠ "java/lang/invoke/MethodHandle" ∧ yX7_morningsAt.cls ≠ "java/lang/invoke/VarHandle" ∧ (parseMethodDescriptor yX7_morningsAt.desc).map (fun d => d.parameters.length) = some 1 := by decide +kernel
theorem wm_X7_morningsAt : Cond.instanceMethod yX7_morningsAt ∈ UW := (uw_t 948 (by decide +kernel) (by decide +kernel))
theorem ws_X7_morningsAt : Cond.selects yX7_morningsAt.cls yX7_morningsAt yX7_morningsAt ∈ UW := (uw_t 949 (by decide +kernel) (by decide +kernel))
theorem mv_RX10_219 : MV RX10 219 yX7_morningsAt cX7_morningsAt 2 (some (.object RX6)) 1 := ⟨⟨(uw_t 947 (by decide +kernel) (by decide +kernel)), wm_X7_morningsAt, ws_X7_morningsAt, wi_RX7, wc_X7_morningsAt⟩, wp_X7_morningsAt⟩
theorem wc_X10_dawns : Cond.code yX10_dawns cX10_dawns 3 (some .boolean) ∈ UW := (uw_t 958 (by decide +kernel) (by decide +kernel))
theorem wp_X10_dawns : yX10_dawns.cls ≠ "java/lang/invoke/MethodHandle" ∧ yX10_dawns.cls ≠ "java/lang/invoke/VarHandle" ∧ (parseMethodDescriptor yX10_dawns.desc).map (fun d => d.parameters.length) = some 2 := by decide +kernel
theorem wm_X10_dawns : Cond.instanceMethod yX10_dawns ∈ UW := (uw_t 957 (by decide +kernel) (by decide +kernel))
theorem ws_X10_dawns : Cond.selects yX10_dawns.cls yX10_dawns yX10_dawns ∈ UW := (uw_s 34 (by decide +kernel) (by decide +kernel))
theorem mv_RX10_222 : MV RX10 222 yX10_dawns cX10_dawns 3 (some .boolean) 2 := ⟨⟨(uw_t 955 (by decide +kernel) (by decide +kernel)), wm_X10_dawns, ws_X10_dawns, wi_RX10, wc_X10_dawns⟩, wp_X10_dawns⟩
theorem wc_X2_question : Cond.code yX2_question cX2_question 6 (some .int) ∈ UW := (uw_t 980 (by decide +kernel) (by decide +kernel))
theorem wp_X2_question : yX2_question.cls ≠ "java/lang/invoke/MethodHandle" ∧ yX2_question.cls ≠ "java/lang/invoke/VarHandle" ∧ (parseMethodDescriptor yX2_question.desc).map (fun d => d.parameters.length) = some 1 := by decide +kernel
theorem wm_X2_question : Cond.instanceMethod yX2_question ∈ UW := (uw_t 978 (by decide +kernel) (by decide +kernel))
theorem ws_X2_question : Cond.selects yX2_question.cls yX2_question yX2_question ∈ UW := (uw_t 979 (by decide +kernel) (by decide +kernel))
theorem mv_RX10_232 : MV RX10 232 yX2_question cX2_question 6 (some .int) 1 := ⟨⟨(uw_t 977 (by decide +kernel) (by decide +kernel)), wm_X2_question, ws_X2_question, wi_RX2, wc_X2_question⟩, wp_X2_question⟩
theorem wc_X3_draw : Cond.code yX3_draw cX3_draw 5 none ∈ UW := (uw_t 993 (by decide +kernel) (by decide +kernel))
theorem wp_X3_draw : yX3_draw.cls ≠ "java/lang/invoke/MethodHandle" ∧ yX3_draw.cls ≠ "java/lang/invoke/VarHandle" ∧ (parseMethodDescriptor yX3_draw.desc).map (fun d => d.parameters.length) = some 3 := by decide +kernel
theorem wm_X3_draw : Cond.instanceMethod yX3_draw ∈ UW := (uw_t 991 (by decide +kernel) (by decide +kernel))
theorem ws_X3_draw : Cond.selects yX3_draw.cls yX3_draw yX3_draw ∈ UW := (uw_t 992 (by decide +kernel) (by decide +kernel))
theorem mv_RX10_235 : MV RX10 235 yX3_draw cX3_draw 5 none 3 := ⟨⟨(uw_t 990 (by decide +kernel) (by decide +kernel)), wm_X3_draw, ws_X3_draw, wi_RX3, wc_X3_draw⟩, wp_X3_draw⟩
theorem wc_X1_hasSinger : Cond.code yX1_hasSinger cX1_hasSinger 2 (some .boolean) ∈ UW := (uw_t 656 (by decide +kernel) (by decide +kernel))
theorem wp_X1_hasSinger : yX1_hasSinger.cls ≠ "java/lang/invoke/MethodHandle" ∧ yX1_hasSinger.cls ≠ "java/lang/invoke/VarHandle" ∧ (parseMethodDescriptor yX1_hasSinger.desc).map (fun d => d.parameters.length) = some 1 := by decide +kernel
theorem wm_X1_hasSinger : Cond.instanceMethod yX1_hasSinger ∈ UW := (uw_t 654 (by decide +kernel) (by decide +kernel))
theorem ws_X1_hasSinger : Cond.selects yX1_hasSinger.cls yX1_hasSinger yX1_hasSinger ∈ UW := (uw_t 655 (by decide +kernel) (by decide +kernel))
theorem mv_RX10_239 : MV RX10 239 yX1_hasSinger cX1_hasSinger 2 (some .boolean) 1 := ⟨⟨(uw_t 1007 (by decide +kernel) (by decide +kernel)), wm_X1_hasSinger, ws_X1_hasSinger, wi_RX1, wc_X1_hasSinger⟩, wp_X1_hasSinger⟩
theorem wc_X5_breathOf : Cond.code yX5_breathOf cX5_breathOf 2 (some .int) ∈ UW := (uw_t 1011 (by decide +kernel) (by decide +kernel))
theorem wp_X5_breathOf : yX5_breathOf.cls ≠ "java/lang/invoke/MethodHandle" ∧ yX5_breathOf.cls ≠ "java/lang/invoke/VarHandle" ∧ (parseMethodDescriptor yX5_breathOf.desc).map (fun d => d.parameters.length) = some 1 := by decide +kernel
theorem wm_X5_breathOf : Cond.instanceMethod yX5_breathOf ∈ UW := (uw_t 1009 (by decide +kernel) (by decide +kernel))
theorem ws_X5_breathOf : Cond.selects yX5_breathOf.cls yX5_breathOf yX5_breathOf ∈ UW := (uw_t 1010 (by decide +kernel) (by decide +kernel))
theorem mv_RX10_242 : MV RX10 242 yX5_breathOf cX5_breathOf 2 (some .int) 1 := ⟨⟨(uw_t 1008 (by decide +kernel) (by decide +kernel)), wm_X5_breathOf, ws_X5_breathOf, wi_RX5, wc_X5_breathOf⟩, wp_X5_breathOf⟩
theorem wc_X5_barsOf : Cond.code yX5_barsOf cX5_barsOf 4 (some .int) ∈ UW := (uw_t 1015 (by decide +kernel) (by decide +kernel))
theorem wp_X5_barsOf : yX5_barsOf.cls ≠ "java/lang/invoke/MethodHandle" ∧ yX5_barsOf.cls ≠ "java/lang/invoke/VarHandle" ∧ (parseMethodDescriptor yX5_barsOf.desc).map (fun d => d.parameters.length) = some 1 := by decide +kernel
theorem wm_X5_barsOf : Cond.instanceMethod yX5_barsOf ∈ UW := (uw_t 1013 (by decide +kernel) (by decide +kernel))
theorem ws_X5_barsOf : Cond.selects yX5_barsOf.cls yX5_barsOf yX5_barsOf ∈ UW := (uw_t 1014 (by decide +kernel) (by decide +kernel))
theorem mv_RX10_245 : MV RX10 245 yX5_barsOf cX5_barsOf 4 (some .int) 1 := ⟨⟨(uw_t 1012 (by decide +kernel) (by decide +kernel)), wm_X5_barsOf, ws_X5_barsOf, wi_RX5, wc_X5_barsOf⟩, wp_X5_barsOf⟩
theorem wc_X5_spares : Cond.code yX5_spares cX5_spares 4 (some .int) ∈ UW := (uw_t 1023 (by decide +kernel) (by decide +kernel))
theorem wp_X5_spares : yX5_spares.cls ≠ "java/lang/invoke/MethodHandle" ∧ yX5_spares.cls ≠ "java/lang/invoke/VarHandle" ∧ (parseMethodDescriptor yX5_spares.desc).map (fun d => d.parameters.length) = some 1 := by decide +kernel
theorem wm_X5_spares : Cond.instanceMethod yX5_spares ∈ UW := (uw_t 1021 (by decide +kernel) (by decide +kernel))
theorem ws_X5_spares : Cond.selects yX5_spares.cls yX5_spares yX5_spares ∈ UW := (uw_t 1022 (by decide +kernel) (by decide +kernel))
theorem mv_RX10_248 : MV RX10 248 yX5_spares cX5_spares 4 (some .int) 1 := ⟨⟨(uw_t 1020 (by decide +kernel) (by decide +kernel)), wm_X5_spares, ws_X5_spares, wi_RX5, wc_X5_spares⟩, wp_X5_spares⟩
theorem wc_X5_all : Cond.code yX5_all cX5_all 2 (some .int) ∈ UW := (uw_t 1027 (by decide +kernel) (by decide +kernel))
theorem wp_X5_all : yX5_all.cls ≠ "java/lang/invoke/MethodHandle" ∧ yX5_all.cls ≠ "java/lang/invoke/VarHandle" ∧ (parseMethodDescriptor yX5_all.desc).map (fun d => d.parameters.length) = some 1 := by decide +kernel
theorem wm_X5_all : Cond.instanceMethod yX5_all ∈ UW := (uw_t 1025 (by decide +kernel) (by decide +kernel))
theorem ws_X5_all : Cond.selects yX5_all.cls yX5_all yX5_all ∈ UW := (uw_t 1026 (by decide +kernel) (by decide +kernel))
theorem mv_RX10_251 : MV RX10 251 yX5_all cX5_all 2 (some .int) 1 := ⟨⟨(uw_t 1024 (by decide +kernel) (by decide +kernel)), wm_X5_all, ws_X5_all, wi_RX5, wc_X5_all⟩, wp_X5_all⟩
theorem wc_X5_cure : Cond.code yX5_cure cX5_cure 3 (some .int) ∈ UW := (uw_t 1036 (by decide +kernel) (by decide +kernel))
theorem wp_X5_cure : yX5_cure.cls ≠ "java/lang/invoke/MethodHandle" ∧ yX5_cure.cls ≠ "java/lang/invoke/VarHandle" ∧ (parseMethodDescriptor yX5_cure.desc).map (fun d => d.parameters.length) = some 1 := by decide +kernel
theorem wm_X5_cure : Cond.instanceMethod yX5_cure ∈ UW := (uw_t 1034 (by decide +kernel) (by decide +kernel))
theorem ws_X5_cure : Cond.selects yX5_cure.cls yX5_cure yX5_cure ∈ UW := (uw_t 1035 (by decide +kernel) (by decide +kernel))
theorem mv_RX10_254 : MV RX10 254 yX5_cure cX5_cure 3 (some .int) 1 := ⟨⟨(uw_t 1033 (by decide +kernel) (by decide +kernel)), wm_X5_cure, ws_X5_cure, wi_RX5, wc_X5_cure⟩, wp_X5_cure⟩
theorem wc_X5_coldDreams : Cond.code yX5_coldDreams cX5_coldDreams 4 (some .int) ∈ UW := (uw_t 970 (by decide +kernel) (by decide +kernel))
theorem wp_X5_coldDreams : yX5_coldDreams.cls ≠ "java/lang/invoke/MethodHandle" ∧ yX5_coldDreams.cls ≠ "java/lang/invoke/VarHandle" ∧ (parseMethodDescriptor yX5_coldDreams.desc).map (fun d => d.parameters.length) = some 1 := by decide +kernel
theorem wm_X5_coldDreams : Cond.instanceMethod yX5_coldDreams ∈ UW := (uw_t 968 (by decide +kernel) (by decide +kernel))
theorem ws_X5_coldDreams : Cond.selects yX5_coldDreams.cls yX5_coldDreams yX5_coldDreams ∈ UW := (uw_t 969 (by decide +kernel) (by decide +kernel))
theorem mv_RX10_257 : MV RX10 257 yX5_coldDreams cX5_coldDreams 4 (some .int) 1 := ⟨⟨(uw_t 1037 (by decide +kernel) (by decide +kernel)), wm_X5_coldDreams, ws_X5_coldDreams, wi_RX5, wc_X5_coldDreams⟩, wp_X5_coldDreams⟩
theorem mv_RX10_260 : MV RX10 260 yX1_peopleOf cX1_peopleOf 4 (some .int) 1 := ⟨⟨(uw_t 1038 (by decide +kernel) (by decide +kernel)), wm_X1_peopleOf, ws_X1_peopleOf, wi_RX1, wc_X1_peopleOf⟩, wp_X1_peopleOf⟩
theorem wc_X5_easiest : Cond.code yX5_easiest cX5_easiest 3 (some .int) ∈ UW := (uw_t 1046 (by decide +kernel) (by decide +kernel))
theorem wp_X5_easiest : yX5_easiest.cls ≠ "java/lang/invoke/MethodHandle" ∧ yX5_easiest.cls ≠ "java/lang/invoke/VarHandle" ∧ (parseMethodDescriptor yX5_easiest.desc).map (fun d => d.parameters.length) = some 1 := by decide +kernel
theorem wm_X5_easiest : Cond.instanceMethod yX5_easiest ∈ UW := (uw_t 1044 (by decide +kernel) (by decide +kernel))
theorem ws_X5_easiest : Cond.selects yX5_easiest.cls yX5_easiest yX5_easiest ∈ UW := (uw_t 1045 (by decide +kernel) (by decide +kernel))
theorem mv_RX10_263 : MV RX10 263 yX5_easiest cX5_easiest 3 (some .int) 1 := ⟨⟨(uw_t 1043 (by decide +kernel) (by decide +kernel)), wm_X5_easiest, ws_X5_easiest, wi_RX5, wc_X5_easiest⟩, wp_X5_easiest⟩
theorem wc_X1_quietest : Cond.code yX1_quietest cX1_quietest 3 (some .int) ∈ UW := (uw_t 1054 (by decide +kernel) (by decide +kernel))
theorem wp_X1_quietest : yX1_quietest.cls ≠ "java/lang/invoke/MethodHandle" ∧ yX1_quietest.cls ≠ "java/lang/invoke/VarHandle" ∧ (parseMethodDescriptor yX1_quietest.desc).map (fun d => d.parameters.length) = some 0 := by decide +kernel
theorem wm_X1_quietest : Cond.instanceMethod yX1_quietest ∈ UW := (uw_t 1052 (by decide +kernel) (by decide +kernel))
theorem ws_X1_quietest : Cond.selects yX1_quietest.cls yX1_quietest yX1_quietest ∈ UW := (uw_t 1053 (by decide +kernel) (by decide +kernel))
theorem mv_RX10_266 : MV RX10 266 yX1_quietest cX1_quietest 3 (some .int) 0 := ⟨⟨(uw_t 1051 (by decide +kernel) (by decide +kernel)), wm_X1_quietest, ws_X1_quietest, wi_RX1, wc_X1_quietest⟩, wp_X1_quietest⟩
theorem mv_RX10_269 : MV RX10 269 yX1_from cX1_from 2 (some .int) 1 := ⟨⟨(uw_t 1062 (by decide +kernel) (by decide +kernel)), wm_X1_from, ws_X1_from, wi_RX1, wc_X1_from⟩, wp_X1_from⟩
theorem wc_X1_rentsOf : Cond.code yX1_rentsOf cX1_rentsOf 4 (some .int) ∈ UW := (uw_t 738 (by decide +kernel) (by decide +kernel))
theorem wp_X1_rentsOf : yX1_rentsOf.cls ≠ "java/lang/invoke/MethodHandle" ∧ yX1_rentsOf.cls ≠ "java/lang/invoke/VarHandle" ∧ (parseMethodDescriptor yX1_rentsOf.desc).map (fun d => d.parameters.length) = some 1 := by decide +kernel
theorem wm_X1_rentsOf : Cond.instanceMethod yX1_rentsOf ∈ UW := (uw_t 736 (by decide +kernel) (by decide +kernel))
theorem ws_X1_rentsOf : Cond.selects yX1_rentsOf.cls yX1_rentsOf yX1_rentsOf ∈ UW := (uw_t 737 (by decide +kernel) (by decide +kernel))
theorem mv_RX10_272 : MV RX10 272 yX1_rentsOf cX1_rentsOf 4 (some .int) 1 := ⟨⟨(uw_t 1063 (by decide +kernel) (by decide +kernel)), wm_X1_rentsOf, ws_X1_rentsOf, wi_RX1, wc_X1_rentsOf⟩, wp_X1_rentsOf⟩
theorem wc_X1_roofOf : Cond.code yX1_roofOf cX1_roofOf 2 (some .int) ∈ UW := (uw_t 1058 (by decide +kernel) (by decide +kernel))
theorem wp_X1_roofOf : yX1_roofOf.cls ≠ "java/lang/invoke/MethodHandle" ∧ yX1_roofOf.cls ≠ "java/lang/invoke/VarHandle" ∧ (parseMethodDescriptor yX1_roofOf.desc).map (fun d => d.parameters.length) = some 1 := by decide +kernel
theorem wm_X1_roofOf : Cond.instanceMethod yX1_roofOf ∈ UW := (uw_t 1056 (by decide +kernel) (by decide +kernel))
theorem ws_X1_roofOf : Cond.selects yX1_roofOf.cls yX1_roofOf yX1_roofOf ∈ UW := (uw_t 1057 (by decide +kernel) (by decide +kernel))
theorem mv_RX10_281 : MV RX10 281 yX1_roofOf cX1_roofOf 2 (some .int) 1 := ⟨⟨(uw_t 1075 (by decide +kernel) (by decide +kernel)), wm_X1_roofOf, ws_X1_roofOf, wi_RX1, wc_X1_roofOf⟩, wp_X1_roofOf⟩
theorem wc_X1_hasFloor : Cond.code yX1_hasFloor cX1_hasFloor 2 (some .boolean) ∈ UW := (uw_t 648 (by decide +kernel) (by decide +kernel))
theorem wp_X1_hasFloor : yX1_hasFloor.cls ≠ "java/lang/invoke/MethodHandle" ∧ yX1_hasFloor.cls ≠ "java/lang/invoke/VarHandle" ∧ (parseMethodDescriptor yX1_hasFloor.desc).map (fun d => d.parameters.length) = some 1 := by decide +kernel
theorem wm_X1_hasFloor : Cond.instanceMethod yX1_hasFloor ∈ UW := (uw_t 646 (by decide +kernel) (by decide +kernel))
theorem ws_X1_hasFloor : Cond.selects yX1_hasFloor.cls yX1_hasFloor yX1_hasFloor ∈ UW := (uw_t 647 (by decide +kernel) (by decide +kernel))
theorem mv_RX10_284 : MV RX10 284 yX1_hasFloor cX1_hasFloor 2 (some .boolean) 1 := ⟨⟨(uw_t 1080 (by decide +kernel) (by decide +kernel)), wm_X1_hasFloor, ws_X1_hasFloor, wi_RX1, wc_X1_hasFloor⟩, wp_X1_hasFloor⟩
theorem mv_RX10_287 : MV RX10 287 yX0_asleep cX0_asleep 6 (some .long) 1 := ⟨⟨(uw_t 1081 (by decide +kernel) (by decide +kernel)), wm_X0_asleep, ws_X0_asleep, wi_RX0, wc_X0_asleep⟩, wp_X0_asleep⟩
theorem wc_X0_atLeast : Cond.code yX0_atLeast cX0_atLeast 3 (some .long) ∈ UW := (uw_t 1089 (by decide +kernel) (by decide +kernel))
theorem wp_X0_atLeast : yX0_atLeast.cls ≠ "java/lang/invoke/MethodHandle" ∧ yX0_atLeast.cls ≠ "java/lang/invoke/VarHandle" ∧ (parseMethodDescriptor yX0_atLeast.desc).map (fun d => d.parameters.length) = some 1 := by decide +kernel
theorem wm_X0_atLeast : Cond.instanceMethod yX0_atLeast ∈ UW := (uw_t 1087 (by decide +kernel) (by decide +kernel))
theorem ws_X0_atLeast : Cond.selects yX0_atLeast.cls yX0_atLeast yX0_atLeast ∈ UW := (uw_t 1088 (by decide +kernel) (by decide +kernel))
theorem mv_RX10_291 : MV RX10 291 yX0_atLeast cX0_atLeast 3 (some .long) 1 := ⟨⟨(uw_t 1086 (by decide +kernel) (by decide +kernel)), wm_X0_atLeast, ws_X0_atLeast, wi_RX0, wc_X0_atLeast⟩, wp_X0_atLeast⟩
theorem wc_X1_notesOn : Cond.code yX1_notesOn cX1_notesOn 4 (some .int) ∈ UW := (uw_t 1099 (by decide +kernel) (by decide +kernel))
theorem wp_X1_notesOn : yX1_notesOn.cls ≠ "java/lang/invoke/MethodHandle" ∧ yX1_notesOn.cls ≠ "java/lang/invoke/VarHandle" ∧ (parseMethodDescriptor yX1_notesOn.desc).map (fun d => d.parameters.length) = some 1 := by decide +kernel
theorem wm_X1_notesOn : Cond.instanceMethod yX1_notesOn ∈ UW := (uw_t 1097 (by decide +kernel) (by decide +kernel))
theorem ws_X1_notesOn : Cond.selects yX1_notesOn.cls yX1_notesOn yX1_notesOn ∈ UW := (uw_t 1098 (by decide +kernel) (by decide +kernel))
theorem mv_RX10_294 : MV RX10 294 yX1_notesOn cX1_notesOn 4 (some .int) 1 := ⟨⟨(uw_t 1096 (by decide +kernel) (by decide +kernel)), wm_X1_notesOn, ws_X1_notesOn, wi_RX1, wc_X1_notesOn⟩, wp_X1_notesOn⟩
theorem wc_X1_everybody : Cond.code yX1_everybody cX1_everybody 1 (some .int) ∈ UW := (uw_t 800 (by decide +kernel) (by decide +kernel))
theorem wp_X1_everybody : yX1_everybody.cls ≠ "java/lang/invoke/MethodHandle" ∧ yX1_everybody.cls ≠ "java/lang/invoke/VarHandle" ∧ (parseMethodDescriptor yX1_everybody.desc).map (fun d => d.parameters.length) = some 0 := by decide +kernel
theorem wm_X1_everybody : Cond.instanceMethod yX1_everybody ∈ UW := (uw_t 798 (by decide +kernel) (by decide +kernel))
theorem ws_X1_everybody : Cond.selects yX1_everybody.cls yX1_everybody yX1_everybody ∈ UW := (uw_t 799 (by decide +kernel) (by decide +kernel))
theorem mv_RX10_297 : MV RX10 297 yX1_everybody cX1_everybody 1 (some .int) 0 := ⟨⟨(uw_t 1104 (by decide +kernel) (by decide +kernel)), wm_X1_everybody, ws_X1_everybody, wi_RX1, wc_X1_everybody⟩, wp_X1_everybody⟩
theorem wc_X1_notesOf : Cond.code yX1_notesOf cX1_notesOf 5 (some .int) ∈ UW := (uw_t 824 (by decide +kernel) (by decide +kernel))
theorem wp_X1_notesOf : yX1_notesOf.cls ≠ "java/lang/invoke/MethodHandle" ∧ yX1_notesOf.cls ≠ "java/lang/invoke/VarHandle" ∧ (parseMethodDescriptor yX1_notesOf.desc).map (fun d => d.parameters.length) = some 1 := by decide +kernel
theorem wm_X1_notesOf : Cond.instanceMethod yX1_notesOf ∈ UW := (uw_t 822 (by decide +kernel) (by decide +kernel))
theorem ws_X1_notesOf : Cond.selects yX1_notesOf.cls yX1_notesOf yX1_notesOf ∈ UW := (uw_t 823 (by decide +kernel) (by decide +kernel))
theorem mv_RX10_300 : MV RX10 300 yX1_notesOf cX1_notesOf 5 (some .int) 1 := ⟨⟨(uw_t 1105 (by decide +kernel) (by decide +kernel)), wm_X1_notesOf, ws_X1_notesOf, wi_RX1, wc_X1_notesOf⟩, wp_X1_notesOf⟩
theorem wc_X3_hoarsest : Cond.code yX3_hoarsest cX3_hoarsest 3 (some .int) ∈ UW := (uw_t 1124 (by decide +kernel) (by decide +kernel))
theorem wp_X3_hoarsest : yX3_hoarsest.cls ≠ "java/lang/invoke/MethodHandle" ∧ yX3_hoarsest.cls ≠ "java/lang/invoke/VarHandle" ∧ (parseMethodDescriptor yX3_hoarsest.desc).map (fun d => d.parameters.length) = some 0 := by decide +kernel
theorem wm_X3_hoarsest : Cond.instanceMethod yX3_hoarsest ∈ UW := (uw_t 1122 (by decide +kernel) (by decide +kernel))
theorem ws_X3_hoarsest : Cond.selects yX3_hoarsest.cls yX3_hoarsest yX3_hoarsest ∈ UW := (uw_t 1123 (by decide +kernel) (by decide +kernel))
theorem mv_RX10_309 : MV RX10 309 yX3_hoarsest cX3_hoarsest 3 (some .int) 0 := ⟨⟨(uw_t 1121 (by decide +kernel) (by decide +kernel)), wm_X3_hoarsest, ws_X3_hoarsest, wi_RX3, wc_X3_hoarsest⟩, wp_X3_hoarsest⟩
theorem wc_X5_hired : Cond.code yX5_hired cX5_hired 3 (some .int) ∈ UW := (uw_t 1136 (by decide +kernel) (by decide +kernel))
theorem wp_X5_hired : yX5_hired.cls ≠ "java/lang/invoke/MethodHandle" ∧ yX5_hired.cls ≠ "java/lang/invoke/VarHandle" ∧ (parseMethodDescriptor yX5_hired.desc).map (fun d => d.parameters.length) = some 1 := by decide +kernel
theorem wm_X5_hired : Cond.instanceMethod yX5_hired ∈ UW := (uw_t 1134 (by decide +kernel) (by decide +kernel))
theorem ws_X5_hired : Cond.selects yX5_hired.cls yX5_hired yX5_hired ∈ UW := (uw_t 1135 (by decide +kernel) (by decide +kernel))
theorem mv_RX10_318 : MV RX10 318 yX5_hired cX5_hired 3 (some .int) 1 := ⟨⟨(uw_t 1133 (by decide +kernel) (by decide +kernel)), wm_X5_hired, ws_X5_hired, wi_RX5, wc_X5_hired⟩, wp_X5_hired⟩
theorem wc_X1_reachedBy : Cond.code yX1_reachedBy cX1_reachedBy 6 (some .int) ∈ UW := (uw_t 1148 (by decide +kernel) (by decide +kernel))
theorem wp_X1_reachedBy : yX1_reachedBy.cls ≠ "java/lang/invoke/MethodHandle" ∧ yX1_reachedBy.cls ≠ "java/lang/invoke/VarHandle" ∧ (parseMethodDescriptor yX1_reachedBy.desc).map (fun d => d.parameters.length) = some 1 := by decide +kernel
theorem wm_X1_reachedBy : Cond.instanceMethod yX1_reachedBy ∈ UW := (uw_t 1146 (by decide +kernel) (by decide +kernel))
theorem ws_X1_reachedBy : Cond.selects yX1_reachedBy.cls yX1_reachedBy yX1_reachedBy ∈ UW := (uw_t 1147 (by decide +kernel) (by decide +kernel))
theorem mv_RX10_321 : MV RX10 321 yX1_reachedBy cX1_reachedBy 6 (some .int) 1 := ⟨⟨(uw_t 1145 (by decide +kernel) (by decide +kernel)), wm_X1_reachedBy, ws_X1_reachedBy, wi_RX1, wc_X1_reachedBy⟩, wp_X1_reachedBy⟩
theorem wc_X1_busiest : Cond.code yX1_busiest cX1_busiest 3 (some .int) ∈ UW := (uw_t 1160 (by decide +kernel) (by decide +kernel))
theorem wp_X1_busiest : yX1_busiest.cls ≠ "java/lang/invoke/MethodHandle" ∧ yX1_busiest.cls ≠ "java/lang/invoke/VarHandle" ∧ (parseMethodDescriptor yX1_busiest.desc).map (fun d => d.parameters.length) = some 0 := by decide +kernel
theorem wm_X1_busiest : Cond.instanceMethod yX1_busiest ∈ UW := (uw_t 1158 (by decide +kernel) (by decide +kernel))
theorem ws_X1_busiest : Cond.selects yX1_busiest.cls yX1_busiest yX1_busiest ∈ UW := (uw_t 1159 (by decide +kernel) (by decide +kernel))
theorem mv_RX10_324 : MV RX10 324 yX1_busiest cX1_busiest 3 (some .int) 0 := ⟨⟨(uw_t 1157 (by decide +kernel) (by decide +kernel)), wm_X1_busiest, ws_X1_busiest, wi_RX1, wc_X1_busiest⟩, wp_X1_busiest⟩
theorem wc_X7_copy : Cond.code yX7_copy cX7_copy 3 none ∈ UW := (uw_t 1173 (by decide +kernel) (by decide +kernel))
theorem wp_X7_copy : yX7_copy.cls ≠ "java/lang/invoke/MethodHandle" ∧ yX7_copy.cls ≠ "java/lang/invoke/VarHandle" ∧ (parseMethodDescriptor yX7_copy.desc).map (fun d => d.parameters.length) = some 1 := by decide +kernel
theorem wm_X7_copy : Cond.instanceMethod yX7_copy ∈ UW := (uw_t 1171 (by decide +kernel) (by decide +kernel))
theorem ws_X7_copy : Cond.selects yX7_copy.cls yX7_copy yX7_copy ∈ UW := (uw_t 1172 (by decide +kernel) (by decide +kernel))
theorem mv_RX10_331 : MV RX10 331 yX7_copy cX7_copy 3 none 1 := ⟨⟨(uw_t 1170 (by decide +kernel) (by decide +kernel)), wm_X7_copy, ws_X7_copy, wi_RX7, wc_X7_copy⟩, wp_X7_copy⟩
theorem wi_RX6 : Cond.initialized RX6 ∈ UW := (uw_t 4 (by decide +kernel) (by decide +kernel))
theorem wc_X6_numbersBelow : Cond.code yX6_numbersBelow cX6_numbersBelow 3 (some .boolean) ∈ UW := (uw_t 962 (by decide +kernel) (by decide +kernel))
theorem wp_X6_numbersBelow : yX6_numbersBelow.cls ≠ "java/lang/invoke/MethodHandle" ∧ yX6_numbersBelow.cls ≠ "java/lang/invoke/VarHandle" ∧ (parseMethodDescriptor yX6_numbersBelow.desc).map (fun d => d.parameters.length) = some 1 := by decide +kernel
theorem wm_X6_numbersBelow : Cond.instanceMethod yX6_numbersBelow ∈ UW := (uw_t 960 (by decide +kernel) (by decide +kernel))
theorem ws_X6_numbersBelow : Cond.selects yX6_numbersBelow.cls yX6_numbersBelow yX6_numbersBelow ∈ UW := (uw_t 961 (by decide +kernel) (by decide +kernel))
theorem mv_RX10_345 : MV RX10 345 yX6_numbersBelow cX6_numbersBelow 3 (some .boolean) 1 := ⟨⟨(uw_t 959 (by decide +kernel) (by decide +kernel)), wm_X6_numbersBelow, ws_X6_numbersBelow, wi_RX6, wc_X6_numbersBelow⟩, wp_X6_numbersBelow⟩
theorem wc_X2_judge : Cond.code yX2_judge cX2_judge 5 none ∈ UW := (uw_t 966 (by decide +kernel) (by decide +kernel))
theorem wp_X2_judge : yX2_judge.cls ≠ "java/lang/invoke/MethodHandle" ∧ yX2_judge.cls ≠ "java/lang/invoke/VarHandle" ∧ (parseMethodDescriptor yX2_judge.desc).map (fun d => d.parameters.length) = some 3 := by decide +kernel
theorem wm_X2_judge : Cond.instanceMethod yX2_judge ∈ UW := (uw_t 964 (by decide +kernel) (by decide +kernel))
theorem ws_X2_judge : Cond.selects yX2_judge.cls yX2_judge yX2_judge ∈ UW := (uw_t 965 (by decide +kernel) (by decide +kernel))
theorem mv_RX10_348 : MV RX10 348 yX2_judge cX2_judge 5 none 3 := ⟨⟨(uw_t 963 (by decide +kernel) (by decide +kernel)), wm_X2_judge, ws_X2_judge, wi_RX2, wc_X2_judge⟩, wp_X2_judge⟩
theorem mv_RX10_355 : MV RX10 355 yX1_sounds cX1_sounds 2 (some .boolean) 1 := ⟨⟨(uw_t 1067 (by decide +kernel) (by decide +kernel)), wm_X1_sounds, ws_X1_sounds, wi_RX1, wc_X1_sounds⟩, wp_X1_sounds⟩
theorem wc_X1_alike : Cond.code yX1_alike cX1_alike 5 (some .boolean) ∈ UW := (uw_t 1074 (by decide +kernel) (by decide +kernel))
theorem wp_X1_alike : yX1_alike.cls ≠ "java/lang/invoke/MethodHandle" ∧ yX1_alike.cls ≠ "java/lang/invoke/VarHandle" ∧ (parseMethodDescriptor yX1_alike.desc).map (fun d => d.parameters.length) = some 3 := by decide +kernel
theorem wm_X1_alike : Cond.instanceMethod yX1_alike ∈ UW := (uw_t 1072 (by decide +kernel) (by decide +kernel))
theorem ws_X1_alike : Cond.selects yX1_alike.cls yX1_alike yX1_alike ∈ UW := (uw_t 1073 (by decide +kernel) (by decide +kernel))
theorem mv_RX10_358 : MV RX10 358 yX1_alike cX1_alike 5 (some .boolean) 3 := ⟨⟨(uw_t 1071 (by decide +kernel) (by decide +kernel)), wm_X1_alike, ws_X1_alike, wi_RX1, wc_X1_alike⟩, wp_X1_alike⟩
theorem wc_X1_notesSung : Cond.code yX1_notesSung cX1_notesSung 3 (some .int) ∈ UW := (uw_t 1116 (by decide +kernel) (by decide +kernel))
theorem wp_X1_notesSung : yX1_notesSung.cls ≠ "java/lang/invoke/MethodHandle" ∧ yX1_notesSung.cls ≠ "java/lang/invoke/VarHandle" ∧ (parseMethodDescriptor yX1_notesSung.desc).map (fun d => d.parameters.length) = some 0 := by decide +kernel
theorem wm_X1_notesSung : Cond.instanceMethod yX1_notesSung ∈ UW := (uw_t 1114 (by decide +kernel) (by decide +kernel))
theorem ws_X1_notesSung : Cond.selects yX1_notesSung.cls yX1_notesSung yX1_notesSung ∈ UW := (uw_t 1115 (by decide +kernel) (by decide +kernel))
theorem mv_RX10_362 : MV RX10 362 yX1_notesSung cX1_notesSung 3 (some .int) 0 := ⟨⟨(uw_t 1113 (by decide +kernel) (by decide +kernel)), wm_X1_notesSung, ws_X1_notesSung, wi_RX1, wc_X1_notesSung⟩, wp_X1_notesSung⟩
theorem wc_X7_put : Cond.code yX7_put cX7_put 3 none ∈ UW := (uw_t 449 (by decide +kernel) (by decide +kernel))
theorem wp_X7_put : yX7_put.cls ≠ "java/lang/invoke/MethodHandle" ∧ yX7_put.cls ≠ "java/lang/invoke/VarHandle" ∧ (parseMethodDescriptor yX7_put.desc).map (fun d => d.parameters.length) = some 1 := by decide +kernel
theorem wm_X7_put : Cond.instanceMethod yX7_put ∈ UW := (uw_t 447 (by decide +kernel) (by decide +kernel))
theorem ws_X7_put : Cond.selects yX7_put.cls yX7_put yX7_put ∈ UW := (uw_t 448 (by decide +kernel) (by decide +kernel))
theorem mv_RX10_77 : MV RX10 77 yX7_put cX7_put 3 none 1 := ⟨⟨(uw_t 446 (by decide +kernel) (by decide +kernel)), wm_X7_put, ws_X7_put, wi_RX7, wc_X7_put⟩, wp_X7_put⟩
theorem wc_X7_numberFor : Cond.code yX7_numberFor cX7_numberFor 3 (some .int) ∈ UW := (uw_t 461 (by decide +kernel) (by decide +kernel))
theorem wp_X7_numberFor : yX7_numberFor.cls ≠ "java/lang/invoke/MethodHandle" ∧ yX7_numberFor.cls ≠ "java/lang/invoke/VarHandle" ∧ (parseMethodDescriptor yX7_numberFor.desc).map (fun d => d.parameters.length) = some 2 := by decide +kernel
theorem wm_X7_numberFor : Cond.instanceMethod yX7_numberFor ∈ UW := (uw_t 459 (by decide +kernel) (by decide +kernel))
theorem ws_X7_numberFor : Cond.selects yX7_numberFor.cls yX7_numberFor yX7_numberFor ∈ UW := (uw_t 460 (by decide +kernel) (by decide +kernel))
theorem mv_RX10_87 : MV RX10 87 yX7_numberFor cX7_numberFor 3 (some .int) 2 := ⟨⟨(uw_t 458 (by decide +kernel) (by decide +kernel)), wm_X7_numberFor, ws_X7_numberFor, wi_RX7, wc_X7_numberFor⟩, wp_X7_numberFor⟩
theorem wc_X4_read : Cond.code yX4_read cX4_read 5 none ∈ UW := (uw_t 465 (by decide +kernel) (by decide +kernel))
theorem wp_X4_read : yX4_read.cls ≠ "java/lang/invoke/MethodHandle" ∧ yX4_read.cls ≠ "java/lang/invoke/VarHandle" ∧ (parseMethodDescriptor yX4_read.desc).map (fun d => d.parameters.length) = some 3 := by decide +kernel
theorem wm_X4_read : Cond.instanceMethod yX4_read ∈ UW := (uw_t 463 (by decide +kernel) (by decide +kernel))
theorem ws_X4_read : Cond.selects yX4_read.cls yX4_read yX4_read ∈ UW := (uw_t 464 (by decide +kernel) (by decide +kernel))
theorem mv_RX10_95 : MV RX10 95 yX4_read cX4_read 5 none 3 := ⟨⟨(uw_t 462 (by decide +kernel) (by decide +kernel)), wm_X4_read, ws_X4_read, wi_RX4, wc_X4_read⟩, wp_X4_read⟩
theorem wc_X11_ends : Cond.code yX11_ends cX11_ends 1 none ∈ UW := (uw_t 1395 (by decide +kernel) (by decide +kernel))
theorem wp_X11_ends : yX11_ends.cls ≠ "java/lang/invoke/MethodHandle" ∧ yX11_ends.cls ≠ "java/lang/invoke/VarHandle" ∧ (parseMethodDescriptor yX11_ends.desc).map (fun d => d.parameters.length) = some 0 := by decide +kernel
theorem wm_X11_ends : Cond.instanceMethod yX11_ends ∈ UW := (uw_t 1394 (by decide +kernel) (by decide +kernel))
theorem ws_X11_ends : Cond.selects yX11_ends.cls yX11_ends yX11_ends ∈ UW := (uw_s 45 (by decide +kernel) (by decide +kernel))
theorem mv_RX11_120 : MV RX11 120 yX11_ends cX11_ends 1 none 0 := ⟨⟨(uw_t 1392 (by decide +kernel) (by decide +kernel)), wm_X11_ends, ws_X11_ends, wi_RX11, wc_X11_ends⟩, wp_X11_ends⟩
theorem wc_X11_also : Cond.code yX11_also cX11_also 3 none ∈ UW := (uw_t 1403 (by decide +kernel) (by decide +kernel))
theorem wp_X11_also : yX11_also.cls ≠ "java/lang/invoke/MethodHandle" ∧ yX11_also.cls ≠ "java/lang/invoke/VarHandle" ∧ (parseMethodDescriptor yX11_also.desc).map (fun d => d.parameters.length) = some 2 := by decide +kernel
theorem wm_X11_also : Cond.instanceMethod yX11_also ∈ UW := (uw_t 1402 (by decide +kernel) (by decide +kernel))
theorem ws_X11_also : Cond.selects yX11_also.cls yX11_also yX11_also ∈ UW := (uw_s 47 (by decide +kernel) (by decide +kernel))
theorem mv_RX11_127 : MV RX11 127 yX11_also cX11_also 3 none 2 := ⟨⟨(uw_t 1400 (by decide +kernel) (by decide +kernel)), wm_X11_also, ws_X11_also, wi_RX11, wc_X11_also⟩, wp_X11_also⟩
theorem wc_X11_advance : Cond.code yX11_advance cX11_advance 4 none ∈ UW := (uw_t 1361 (by decide +kernel) (by decide +kernel))
theorem wp_X11_advance : yX11_advance.cls ≠ "java/lang/invoke/MethodHandle" ∧ yX11_advance.cls ≠ "java/lang/invoke/VarHandle" ∧ (parseMethodDescriptor yX11_advance.desc).map (fun d => d.parameters.length) = some 0 := by decide +kernel
theorem wm_X11_advance : Cond.instanceMethod yX11_advance ∈ UW := (uw_t 1360 (by decide +kernel) (by decide +kernel))
theorem ws_X11_advance : Cond.selects yX11_advance.cls yX11_advance yX11_advance ∈ UW := (uw_s 41 (by decide +kernel) (by decide +kernel))
theorem mv_RX11_131 : MV RX11 131 yX11_advance cX11_advance 4 none 0 := ⟨⟨(uw_t 1358 (by decide +kernel) (by decide +kernel)), wm_X11_advance, ws_X11_advance, wi_RX11, wc_X11_advance⟩, wp_X11_advance⟩
theorem wc_X11_numbered : Cond.code yX11_numbered cX11_numbered 4 (some .int) ∈ UW := (uw_t 1407 (by decide +kernel) (by decide +kernel))
theorem wp_X11_numbered : yX11_numbered.cls ≠ "java/lang/invoke/MethodHandle" ∧ yX11_numbered.cls ≠ "java/lang/invoke/VarHandle" ∧ (parseMethodDescriptor yX11_numbered.desc).map (fun d => d.parameters.length) = some 2 := by decide +kernel
theorem wm_X11_numbered : Cond.instanceMethod yX11_numbered ∈ UW := (uw_t 1406 (by decide +kernel) (by decide +kernel))
theorem ws_X11_numbered : Cond.selects yX11_numbered.cls yX11_numbered yX11_numbered ∈ UW := (uw_s 48 (by decide +kernel) (by decide +kernel))
theorem mv_RX11_134 : MV RX11 134 yX11_numbered cX11_numbered 4 (some .int) 2 := ⟨⟨(uw_t 1404 (by decide +kernel) (by decide +kernel)), wm_X11_numbered, ws_X11_numbered, wi_RX11, wc_X11_numbered⟩, wp_X11_numbered⟩
theorem wc_X11_above : Cond.code yX11_above cX11_above 6 (some .int) ∈ UW := (uw_t 1419 (by decide +kernel) (by decide +kernel))
theorem wp_X11_above : yX11_above.cls ≠ "java/lang/invoke/MethodHandle" ∧ yX11_above.cls ≠ "java/lang/invoke/VarHandle" ∧ (parseMethodDescriptor yX11_above.desc).map (fun d => d.parameters.length) = some 2 := by decide +kernel
theorem wm_X11_above : Cond.instanceMethod yX11_above ∈ UW := (uw_t 1418 (by decide +kernel) (by decide +kernel))
theorem ws_X11_above : Cond.selects yX11_above.cls yX11_above yX11_above ∈ UW := (uw_s 51 (by decide +kernel) (by decide +kernel))
theorem mv_RX11_141 : MV RX11 141 yX11_above cX11_above 6 (some .int) 2 := ⟨⟨(uw_t 1416 (by decide +kernel) (by decide +kernel)), wm_X11_above, ws_X11_above, wi_RX11, wc_X11_above⟩, wp_X11_above⟩
theorem wc_X11_wordIn : Cond.code yX11_wordIn cX11_wordIn 4 (some .int) ∈ UW := (uw_t 1391 (by decide +kernel) (by decide +kernel))
theorem wp_X11_wordIn : yX11_wordIn.cls ≠ "java/lang/invoke/MethodHandle" ∧ yX11_wordIn.cls ≠ "java/lang/invoke/VarHandle" ∧ (parseMethodDescriptor yX11_wordIn.desc).map (fun d => d.parameters.length) = some 2 := by decide +kernel
theorem wm_X11_wordIn : Cond.instanceMethod yX11_wordIn ∈ UW := (uw_t 1390 (by decide +kernel) (by decide +kernel))
theorem ws_X11_wordIn : Cond.selects yX11_wordIn.cls yX11_wordIn yX11_wordIn ∈ UW := (uw_s 44 (by decide +kernel) (by decide +kernel))
theorem mv_RX11_144 : MV RX11 144 yX11_wordIn cX11_wordIn 4 (some .int) 2 := ⟨⟨(uw_t 1388 (by decide +kernel) (by decide +kernel)), wm_X11_wordIn, ws_X11_wordIn, wi_RX11, wc_X11_wordIn⟩, wp_X11_wordIn⟩
theorem wc_X11_floorTold : Cond.code yX11_floorTold cX11_floorTold 4 none ∈ UW := (uw_t 1399 (by decide +kernel) (by decide +kernel))
theorem wp_X11_floorTold : yX11_floorTold.cls ≠ "java/lang/invoke/MethodHandle" ∧ yX11_floorTold.cls ≠ "java/lang/invoke/VarHandle" ∧ (parseMethodDescriptor yX11_floorTold.desc).map (fun d => d.parameters.length) = some 1 := by decide +kernel
theorem wm_X11_floorTold : Cond.instanceMethod yX11_floorTold ∈ UW := (uw_t 1398 (by decide +kernel) (by decide +kernel))
theorem ws_X11_floorTold : Cond.selects yX11_floorTold.cls yX11_floorTold yX11_floorTold ∈ UW := (uw_s 46 (by decide +kernel) (by decide +kernel))
theorem mv_RX11_147 : MV RX11 147 yX11_floorTold cX11_floorTold 4 none 1 := ⟨⟨(uw_t 1396 (by decide +kernel) (by decide +kernel)), wm_X11_floorTold, ws_X11_floorTold, wi_RX11, wc_X11_floorTold⟩, wp_X11_floorTold⟩
theorem wc_X11_barTold : Cond.code yX11_barTold cX11_barTold 7 none ∈ UW := (uw_t 1411 (by decide +kernel) (by decide +kernel))
theorem wp_X11_barTold : yX11_barTold.cls ≠ "java/lang/invoke/MethodHandle" ∧ yX11_barTold.cls ≠ "java/lang/invoke/VarHandle" ∧ (parseMethodDescriptor yX11_barTold.desc).map (fun d => d.parameters.length) = some 1 := by decide +kernel
theorem wm_X11_barTold : Cond.instanceMethod yX11_barTold ∈ UW := (uw_t 1410 (by decide +kernel) (by decide +kernel))
theorem ws_X11_barTold : Cond.selects yX11_barTold.cls yX11_barTold yX11_barTold ∈ UW := (uw_s 49 (by decide +kernel) (by decide +kernel))
theorem mv_RX11_151 : MV RX11 151 yX11_barTold cX11_barTold 7 none 1 := ⟨⟨(uw_t 1408 (by decide +kernel) (by decide +kernel)), wm_X11_barTold, ws_X11_barTold, wi_RX11, wc_X11_barTold⟩, wp_X11_barTold⟩
theorem wc_X11_singerTold : Cond.code yX11_singerTold cX11_singerTold 6 none ∈ UW := (uw_t 1415 (by decide +kernel) (by decide +kernel))
theorem wp_X11_singerTold : yX11_singerTold.cls ≠ "java/lang/invoke/MethodHandle" ∧ yX11_singerTold.cls ≠ "java/lang/invoke/VarHandle" ∧ (parseMethodDescriptor yX11_singerTold.desc).map (fun d => d.parameters.length) = some 1 := by decide +kernel
theorem wm_X11_singerTold : Cond.instanceMethod yX11_singerTold ∈ UW := (uw_t 1414 (by decide +kernel) (by decide +kernel))
theorem ws_X11_singerTold : Cond.selects yX11_singerTold.cls yX11_singerTold yX11_singerTold ∈ UW := (uw_s 50 (by decide +kernel) (by decide +kernel))
theorem mv_RX11_154 : MV RX11 154 yX11_singerTold cX11_singerTold 6 none 1 := ⟨⟨(uw_t 1412 (by decide +kernel) (by decide +kernel)), wm_X11_singerTold, ws_X11_singerTold, wi_RX11, wc_X11_singerTold⟩, wp_X11_singerTold⟩
theorem wc_X11_endsLine : Cond.code yX11_endsLine cX11_endsLine 1 none ∈ UW := (uw_t 1423 (by decide +kernel) (by decide +kernel))
theorem wp_X11_endsLine : yX11_endsLine.cls ≠ "java/lang/invoke/MethodHandle" ∧ yX11_endsLine.cls ≠ "java/lang/invoke/VarHandle" ∧ (parseMethodDescriptor yX11_endsLine.desc).map (fun d => d.parameters.length) = some 0 := by decide +kernel
theorem wm_X11_endsLine : Cond.instanceMethod yX11_endsLine ∈ UW := (uw_t 1422 (by decide +kernel) (by decide +kernel))
theorem ws_X11_endsLine : Cond.selects yX11_endsLine.cls yX11_endsLine yX11_endsLine ∈ UW := (uw_s 52 (by decide +kernel) (by decide +kernel))
theorem mv_RX11_160 : MV RX11 160 yX11_endsLine cX11_endsLine 1 none 0 := ⟨⟨(uw_t 1420 (by decide +kernel) (by decide +kernel)), wm_X11_endsLine, ws_X11_endsLine, wi_RX11, wc_X11_endsLine⟩, wp_X11_endsLine⟩
theorem wc_X11_isOf : Cond.code yX11_isOf cX11_isOf 3 (some .boolean) ∈ UW := (uw_t 1357 (by decide +kernel) (by decide +kernel))
theorem wp_X11_isOf : yX11_isOf.cls ≠ "java/lang/invoke/MethodHandle" ∧ yX11_isOf.cls ≠ "java/lang/invoke/VarHandle" ∧ (parseMethodDescriptor yX11_isOf.desc).map (fun d => d.parameters.length) = some 2 := by decide +kernel
theorem wm_X11_isOf : Cond.instanceMethod yX11_isOf ∈ UW := (uw_t 1356 (by decide +kernel) (by decide +kernel))
theorem ws_X11_isOf : Cond.selects yX11_isOf.cls yX11_isOf yX11_isOf ∈ UW := (uw_s 40 (by decide +kernel) (by decide +kernel))
theorem mv_RX11_163 : MV RX11 163 yX11_isOf cX11_isOf 3 (some .boolean) 2 := ⟨⟨(uw_t 1354 (by decide +kernel) (by decide +kernel)), wm_X11_isOf, ws_X11_isOf, wi_RX11, wc_X11_isOf⟩, wp_X11_isOf⟩
theorem wc_X11_houseLine : Cond.code yX11_houseLine cX11_houseLine 4 none ∈ UW := (uw_t 1387 (by decide +kernel) (by decide +kernel))
theorem wp_X11_houseLine : yX11_houseLine.cls ≠ "java/lang/invoke/MethodHandle" ∧ yX11_houseLine.cls ≠ "java/lang/invoke/VarHandle" ∧ (parseMethodDescriptor yX11_houseLine.desc).map (fun d => d.parameters.length) = some 0 := by decide +kernel
theorem wm_X11_houseLine : Cond.instanceMethod yX11_houseLine ∈ UW := (uw_t 1386 (by decide +kernel) (by decide +kernel))
theorem ws_X11_houseLine : Cond.selects yX11_houseLine.cls yX11_houseLine yX11_houseLine ∈ UW := (uw_s 43 (by decide +kernel) (by decide +kernel))
theorem mv_RX11_167 : MV RX11 167 yX11_houseLine cX11_houseLine 4 none 0 := ⟨⟨(uw_t 1384 (by decide +kernel) (by decide +kernel)), wm_X11_houseLine, ws_X11_houseLine, wi_RX11, wc_X11_houseLine⟩, wp_X11_houseLine⟩
theorem wc_X11_nightsLine : Cond.code yX11_nightsLine cX11_nightsLine 4 none ∈ UW := (uw_t 1427 (by decide +kernel) (by decide +kernel))
theorem wp_X11_nightsLine : yX11_nightsLine.cls ≠ "java/lang/invoke/MethodHandle" ∧ yX11_nightsLine.cls ≠ "java/lang/invoke/VarHandle" ∧ (parseMethodDescriptor yX11_nightsLine.desc).map (fun d => d.parameters.length) = some 0 := by decide +kernel
theorem wm_X11_nightsLine : Cond.instanceMethod yX11_nightsLine ∈ UW := (uw_t 1426 (by decide +kernel) (by decide +kernel))
theorem ws_X11_nightsLine : Cond.selects yX11_nightsLine.cls yX11_nightsLine yX11_nightsLine ∈ UW := (uw_s 53 (by decide +kernel) (by decide +kernel))
theorem mv_RX11_170 : MV RX11 170 yX11_nightsLine cX11_nightsLine 4 none 0 := ⟨⟨(uw_t 1424 (by decide +kernel) (by decide +kernel)), wm_X11_nightsLine, ws_X11_nightsLine, wi_RX11, wc_X11_nightsLine⟩, wp_X11_nightsLine⟩
theorem wc_X11_morningsLine : Cond.code yX11_morningsLine cX11_morningsLine 4 none ∈ UW := (uw_t 1431 (by decide +kernel) (by decide +kernel))
theorem wp_X11_morningsLine : yX11_morningsLine.cls ≠ "java/lang/invoke/MethodHandle" ∧ yX11_morningsLine.cls ≠ "java/lang/invoke/VarHandle" ∧ (parseMethodDescriptor yX11_morningsLine.desc).map (fun d => d.parameters.length) = some 0 := by decide +kernel
theorem wm_X11_morningsLine : Cond.instanceMethod yX11_morningsLine ∈ UW := (uw_t 1430 (by decide +kernel) (by decide +kernel))
theorem ws_X11_morningsLine : Cond.selects yX11_morningsLine.cls yX11_morningsLine yX11_morningsLine ∈ UW := (uw_s 54 (by decide +kernel) (by decide +kernel))
theorem mv_RX11_173 : MV RX11 173 yX11_morningsLine cX11_morningsLine 4 none 0 := ⟨⟨(uw_t 1428 (by decide +kernel) (by decide +kernel)), wm_X11_morningsLine, ws_X11_morningsLine, wi_RX11, wc_X11_morningsLine⟩, wp_X11_morningsLine⟩
theorem wc_X11_noteOf : Cond.code yX11_noteOf cX11_noteOf 2 (some .int) ∈ UW := (uw_t 1489 (by decide +kernel) (by decide +kernel))
theorem wp_X11_noteOf : yX11_noteOf.cls ≠ "java/lang/invoke/MethodHandle" ∧ yX11_noteOf.cls ≠ "java/lang/invoke/VarHandle" ∧ (parseMethodDescriptor yX11_noteOf.desc).map (fun d => d.parameters.length) = some 1 := by decide +kernel
theorem wm_X11_noteOf : Cond.instanceMethod yX11_noteOf ∈ UW := (uw_t 1488 (by decide +kernel) (by decide +kernel))
theorem ws_X11_noteOf : Cond.selects yX11_noteOf.cls yX11_noteOf yX11_noteOf ∈ UW := (uw_s 64 (by decide +kernel) (by decide +kernel))
theorem mv_RX11_194 : MV RX11 194 yX11_noteOf cX11_noteOf 2 (some .int) 1 := ⟨⟨(uw_t 1486 (by decide +kernel) (by decide +kernel)), wm_X11_noteOf, ws_X11_noteOf, wi_RX11, wc_X11_noteOf⟩, wp_X11_noteOf⟩
theorem wc_X11_isHouse : Cond.code yX11_isHouse cX11_isHouse 2 (some .boolean) ∈ UW := (uw_t 1449 (by decide +kernel) (by decide +kernel))
theorem wp_X11_isHouse : yX11_isHouse.cls ≠ "java/lang/invoke/MethodHandle" ∧ yX11_isHouse.cls ≠ "java/lang/invoke/VarHandle" ∧ (parseMethodDescriptor yX11_isHouse.desc).map (fun d => d.parameters.length) = some 1 := by decide +kernel
theorem wm_X11_isHouse : Cond.instanceMethod yX11_isHouse ∈ UW := (uw_t 1448 (by decide +kernel) (by decide +kernel))
theorem ws_X11_isHouse : Cond.selects yX11_isHouse.cls yX11_isHouse yX11_isHouse ∈ UW := (uw_s 55 (by decide +kernel) (by decide +kernel))
theorem mv_RX11_197 : MV RX11 197 yX11_isHouse cX11_isHouse 2 (some .boolean) 1 := ⟨⟨(uw_t 1446 (by decide +kernel) (by decide +kernel)), wm_X11_isHouse, ws_X11_isHouse, wi_RX11, wc_X11_isHouse⟩, wp_X11_isHouse⟩
theorem wc_X11_isFloor : Cond.code yX11_isFloor cX11_isFloor 2 (some .boolean) ∈ UW := (uw_t 1453 (by decide +kernel) (by decide +kernel))
theorem wp_X11_isFloor : yX11_isFloor.cls ≠ "java/lang/invoke/MethodHandle" ∧ yX11_isFloor.cls ≠ "java/lang/invoke/VarHandle" ∧ (parseMethodDescriptor yX11_isFloor.desc).map (fun d => d.parameters.length) = some 1 := by decide +kernel
theorem wm_X11_isFloor : Cond.instanceMethod yX11_isFloor ∈ UW := (uw_t 1452 (by decide +kernel) (by decide +kernel))
theorem ws_X11_isFloor : Cond.selects yX11_isFloor.cls yX11_isFloor yX11_isFloor ∈ UW := (uw_s 56 (by decide +kernel) (by decide +kernel))
theorem mv_RX11_200 : MV RX11 200 yX11_isFloor cX11_isFloor 2 (some .boolean) 1 := ⟨⟨(uw_t 1450 (by decide +kernel) (by decide +kernel)), wm_X11_isFloor, ws_X11_isFloor, wi_RX11, wc_X11_isFloor⟩, wp_X11_isFloor⟩
theorem wc_X11_rentOf : Cond.code yX11_rentOf cX11_rentOf 2 (some .int) ∈ UW := (uw_t 1457 (by decide +kernel) (by decide +kernel))
theorem wp_X11_rentOf : yX11_rentOf.cls ≠ "java/lang/invoke/MethodHandle" ∧ yX11_rentOf.cls ≠ "java/lang/invoke/VarHandle" ∧ (parseMethodDescriptor yX11_rentOf.desc).map (fun d => d.parameters.length) = some 1 := by decide +kernel
theorem wm_X11_rentOf : Cond.instanceMethod yX11_rentOf ∈ UW := (uw_t 1456 (by decide +kernel) (by decide +kernel))
theorem ws_X11_rentOf : Cond.selects yX11_rentOf.cls yX11_rentOf yX11_rentOf ∈ UW := (uw_s 57 (by decide +kernel) (by decide +kernel))
theorem mv_RX11_203 : MV RX11 203 yX11_rentOf cX11_rentOf 2 (some .int) 1 := ⟨⟨(uw_t 1454 (by decide +kernel) (by decide +kernel)), wm_X11_rentOf, ws_X11_rentOf, wi_RX11, wc_X11_rentOf⟩, wp_X11_rentOf⟩
theorem wc_X11_peopleOf : Cond.code yX11_peopleOf cX11_peopleOf 2 (some .int) ∈ UW := (uw_t 1461 (by decide +kernel) (by decide +kernel))
theorem wp_X11_peopleOf : yX11_peopleOf.cls ≠ "java/lang/invoke/MethodHandle" ∧ yX11_peopleOf.cls ≠ "java/lang/invoke/VarHandle" ∧ (parseMethodDescriptor yX11_peopleOf.desc).map (fun d => d.parameters.length) = some 1 := by decide +kernel
theorem wm_X11_peopleOf : Cond.instanceMethod yX11_peopleOf ∈ UW := (uw_t 1460 (by decide +kernel) (by decide +kernel))
theorem ws_X11_peopleOf : Cond.selects yX11_peopleOf.cls yX11_peopleOf yX11_peopleOf ∈ UW := (uw_s 58 (by decide +kernel) (by decide +kernel))
theorem mv_RX11_206 : MV RX11 206 yX11_peopleOf cX11_peopleOf 2 (some .int) 1 := ⟨⟨(uw_t 1458 (by decide +kernel) (by decide +kernel)), wm_X11_peopleOf, ws_X11_peopleOf, wi_RX11, wc_X11_peopleOf⟩, wp_X11_peopleOf⟩
theorem wc_X11_isBar : Cond.code yX11_isBar cX11_isBar 2 (some .boolean) ∈ UW := (uw_t 1465 (by decide +kernel) (by decide +kernel))
theorem wp_X11_isBar : yX11_isBar.cls ≠ "java/lang/invoke/MethodHandle" ∧ yX11_isBar.cls ≠ "java/lang/invoke/VarHandle" ∧ (parseMethodDescriptor yX11_isBar.desc).map (fun d => d.parameters.length) = some 1 := by decide +kernel
theorem wm_X11_isBar : Cond.instanceMethod yX11_isBar ∈ UW := (uw_t 1464 (by decide +kernel) (by decide +kernel))
theorem ws_X11_isBar : Cond.selects yX11_isBar.cls yX11_isBar yX11_isBar ∈ UW := (uw_s 59 (by decide +kernel) (by decide +kernel))
theorem mv_RX11_209 : MV RX11 209 yX11_isBar cX11_isBar 2 (some .boolean) 1 := ⟨⟨(uw_t 1462 (by decide +kernel) (by decide +kernel)), wm_X11_isBar, ws_X11_isBar, wi_RX11, wc_X11_isBar⟩, wp_X11_isBar⟩
theorem wc_X11_isSinger : Cond.code yX11_isSinger cX11_isSinger 2 (some .boolean) ∈ UW := (uw_t 1469 (by decide +kernel) (by decide +kernel))
theorem wp_X11_isSinger : yX11_isSinger.cls ≠ "java/lang/invoke/MethodHandle" ∧ yX11_isSinger.cls ≠ "java/lang/invoke/VarHandle" ∧ (parseMethodDescriptor yX11_isSinger.desc).map (fun d => d.parameters.length) = some 1 := by decide +kernel
theorem wm_X11_isSinger : Cond.instanceMethod yX11_isSinger ∈ UW := (uw_t 1468 (by decide +kernel) (by decide +kernel))
theorem ws_X11_isSinger : Cond.selects yX11_isSinger.cls yX11_isSinger yX11_isSinger ∈ UW := (uw_s 60 (by decide +kernel) (by decide +kernel))
theorem mv_RX11_212 : MV RX11 212 yX11_isSinger cX11_isSinger 2 (some .boolean) 1 := ⟨⟨(uw_t 1466 (by decide +kernel) (by decide +kernel)), wm_X11_isSinger, ws_X11_isSinger, wi_RX11, wc_X11_isSinger⟩, wp_X11_isSinger⟩
theorem wc_X11_breathOf : Cond.code yX11_breathOf cX11_breathOf 2 (some .int) ∈ UW := (uw_t 1493 (by decide +kernel) (by decide +kernel))
theorem wp_X11_breathOf : yX11_breathOf.cls ≠ "java/lang/invoke/MethodHandle" ∧ yX11_breathOf.cls ≠ "java/lang/invoke/VarHandle" ∧ (parseMethodDescriptor yX11_breathOf.desc).map (fun d => d.parameters.length) = some 1 := by decide +kernel
theorem wm_X11_breathOf : Cond.instanceMethod yX11_breathOf ∈ UW := (uw_t 1492 (by decide +kernel) (by decide +kernel))
theorem ws_X11_breathOf : Cond.selects yX11_breathOf.cls yX11_breathOf yX11_breathOf ∈ UW := (uw_s 65 (by decide +kernel) (by decide +kernel))
theorem mv_RX11_218 : MV RX11 218 yX11_breathOf cX11_breathOf 2 (some .int) 1 := ⟨⟨(uw_t 1490 (by decide +kernel) (by decide +kernel)), wm_X11_breathOf, ws_X11_breathOf, wi_RX11, wc_X11_breathOf⟩, wp_X11_breathOf⟩
theorem wc_X11_reaches : Cond.code yX11_reaches cX11_reaches 4 (some .boolean) ∈ UW := (uw_t 1510 (by decide +kernel) (by decide +kernel))
theorem wp_X11_reaches : yX11_reaches.cls ≠ "java/lang/invoke/MethodHandle" ∧ yX11_reaches.cls ≠ "java/lang/invoke/VarHandle" ∧ (parseMethodDescriptor yX11_reaches.desc).map (fun d => d.parameters.length) = some 3 := by decide +kernel
theorem wm_X11_reaches : Cond.instanceMethod yX11_reaches ∈ UW := (uw_t 1509 (by decide +kernel) (by decide +kernel))
theorem ws_X11_reaches : Cond.selects yX11_reaches.cls yX11_reaches yX11_reaches ∈ UW := (uw_s 69 (by decide +kernel) (by decide +kernel))
theorem mv_RX11_228 : MV RX11 228 yX11_reaches cX11_reaches 4 (some .boolean) 3 := ⟨⟨(uw_t 1507 (by decide +kernel) (by decide +kernel)), wm_X11_reaches, ws_X11_reaches, wi_RX11, wc_X11_reaches⟩, wp_X11_reaches⟩
theorem wc_X11_longOf : Cond.code yX11_longOf cX11_longOf 2 (some .int) ∈ UW := (uw_t 1502 (by decide +kernel) (by decide +kernel))
theorem wp_X11_longOf : yX11_longOf.cls ≠ "java/lang/invoke/MethodHandle" ∧ yX11_longOf.cls ≠ "java/lang/invoke/VarHandle" ∧ (parseMethodDescriptor yX11_longOf.desc).map (fun d => d.parameters.length) = some 1 := by decide +kernel
theorem wm_X11_longOf : Cond.instanceMethod yX11_longOf ∈ UW := (uw_t 1501 (by decide +kernel) (by decide +kernel))
theorem ws_X11_longOf : Cond.selects yX11_longOf.cls yX11_longOf yX11_longOf ∈ UW := (uw_s 67 (by decide +kernel) (by decide +kernel))
theorem mv_RX11_231 : MV RX11 231 yX11_longOf cX11_longOf 2 (some .int) 1 := ⟨⟨(uw_t 1499 (by decide +kernel) (by decide +kernel)), wm_X11_longOf, ws_X11_longOf, wi_RX11, wc_X11_longOf⟩, wp_X11_longOf⟩
theorem wc_X11_maySing : Cond.code yX11_maySing cX11_maySing 3 (some .boolean) ∈ UW := (uw_t 1506 (by decide +kernel) (by decide +kernel))
theorem wp_X11_maySing : yX11_maySing.cls ≠ "java/lang/invoke/MethodHandle" ∧ yX11_maySing.cls ≠ "java/lang/invoke/VarHandle" ∧ (parseMethodDescriptor yX11_maySing.desc).map (fun d => d.parameters.length) = some 1 := by decide +kernel
theorem wm_X11_maySing : Cond.instanceMethod yX11_maySing ∈ UW := (uw_t 1505 (by decide +kernel) (by decide +kernel))
theorem ws_X11_maySing : Cond.selects yX11_maySing.cls yX11_maySing yX11_maySing ∈ UW := (uw_s 68 (by decide +kernel) (by decide +kernel))
theorem mv_RX11_234 : MV RX11 234 yX11_maySing cX11_maySing 3 (some .boolean) 1 := ⟨⟨(uw_t 1503 (by decide +kernel) (by decide +kernel)), wm_X11_maySing, ws_X11_maySing, wi_RX11, wc_X11_maySing⟩, wp_X11_maySing⟩
theorem wc_X11_laysRows : Cond.code yX11_laysRows cX11_laysRows 5 none ∈ UW := (uw_t 1485 (by decide +kernel) (by decide +kernel))
theorem wp_X11_laysRows : yX11_laysRows.cls ≠ "java/lang/invoke/MethodHandle" ∧ yX11_laysRows.cls ≠ "java/lang/invoke/VarHandle" ∧ (parseMethodDescriptor yX11_laysRows.desc).map (fun d => d.parameters.length) = some 3 := by decide +kernel
theorem wm_X11_laysRows : Cond.instanceMethod yX11_laysRows ∈ UW := (uw_t 1484 (by decide +kernel) (by decide +kernel))
theorem ws_X11_laysRows : Cond.selects yX11_laysRows.cls yX11_laysRows yX11_laysRows ∈ UW := (uw_s 63 (by decide +kernel) (by decide +kernel))
theorem mv_RX11_237 : MV RX11 237 yX11_laysRows cX11_laysRows 5 none 3 := ⟨⟨(uw_t 1482 (by decide +kernel) (by decide +kernel)), wm_X11_laysRows, ws_X11_laysRows, wi_RX11, wc_X11_laysRows⟩, wp_X11_laysRows⟩
theorem wc_X11_goesOn : Cond.code yX11_goesOn cX11_goesOn 2 (some .boolean) ∈ UW := (uw_t 1498 (by decide +kernel) (by decide +kernel))
theorem wp_X11_goesOn : yX11_goesOn.cls ≠ "java/lang/invoke/MethodHandle" ∧ yX11_goesOn.cls ≠ "java/lang/invoke/VarHandle" ∧ (parseMethodDescriptor yX11_goesOn.desc).map (fun d => d.parameters.length) = some 0 := by decide +kernel
theorem wm_X11_goesOn : Cond.instanceMethod yX11_goesOn ∈ UW := (uw_t 1497 (by decide +kernel) (by decide +kernel))
theorem ws_X11_goesOn : Cond.selects yX11_goesOn.cls yX11_goesOn yX11_goesOn ∈ UW := (uw_s 66 (by decide +kernel) (by decide +kernel))
theorem mv_RX11_241 : MV RX11 241 yX11_goesOn cX11_goesOn 2 (some .boolean) 0 := ⟨⟨(uw_t 1495 (by decide +kernel) (by decide +kernel)), wm_X11_goesOn, ws_X11_goesOn, wi_RX11, wc_X11_goesOn⟩, wp_X11_goesOn⟩
theorem wc_X11_everybody : Cond.code yX11_everybody cX11_everybody 1 (some .int) ∈ UW := (uw_t 1477 (by decide +kernel) (by decide +kernel))
theorem wp_X11_everybody : yX11_everybody.cls ≠ "java/lang/invoke/MethodHandle" ∧ yX11_everybody.cls ≠ "java/lang/invoke/VarHandle" ∧ (parseMethodDescriptor yX11_everybody.desc).map (fun d => d.parameters.length) = some 0 := by decide +kernel
theorem wm_X11_everybody : Cond.instanceMethod yX11_everybody ∈ UW := (uw_t 1476 (by decide +kernel) (by decide +kernel))
theorem ws_X11_everybody : Cond.selects yX11_everybody.cls yX11_everybody yX11_everybody ∈ UW := (uw_s 61 (by decide +kernel) (by decide +kernel))
theorem mv_RX11_245 : MV RX11 245 yX11_everybody cX11_everybody 1 (some .int) 0 := ⟨⟨(uw_t 1474 (by decide +kernel) (by decide +kernel)), wm_X11_everybody, ws_X11_everybody, wi_RX11, wc_X11_everybody⟩, wp_X11_everybody⟩
theorem wc_X11_isRota : Cond.code yX11_isRota cX11_isRota 4 (some .boolean) ∈ UW := (uw_t 1481 (by decide +kernel) (by decide +kernel))
theorem wp_X11_isRota : yX11_isRota.cls ≠ "java/lang/invoke/MethodHandle" ∧ yX11_isRota.cls ≠ "java/lang/invoke/VarHandle" ∧ (parseMethodDescriptor yX11_isRota.desc).map (fun d => d.parameters.length) = some 3 := by decide +kernel
theorem wm_X11_isRota : Cond.instanceMethod yX11_isRota ∈ UW := (uw_t 1480 (by decide +kernel) (by decide +kernel))
theorem ws_X11_isRota : Cond.selects yX11_isRota.cls yX11_isRota yX11_isRota ∈ UW := (uw_s 62 (by decide +kernel) (by decide +kernel))
theorem mv_RX11_249 : MV RX11 249 yX11_isRota cX11_isRota 4 (some .boolean) 3 := ⟨⟨(uw_t 1478 (by decide +kernel) (by decide +kernel)), wm_X11_isRota, ws_X11_isRota, wi_RX11, wc_X11_isRota⟩, wp_X11_isRota⟩
theorem wc_X11_singerOf : Cond.code yX11_singerOf cX11_singerOf 4 (some .int) ∈ UW := (uw_t 1514 (by decide +kernel) (by decide +kernel))
theorem wp_X11_singerOf : yX11_singerOf.cls ≠ "java/lang/invoke/MethodHandle" ∧ yX11_singerOf.cls ≠ "java/lang/invoke/VarHandle" ∧ (parseMethodDescriptor yX11_singerOf.desc).map (fun d => d.parameters.length) = some 1 := by decide +kernel
theorem wm_X11_singerOf : Cond.instanceMethod yX11_singerOf ∈ UW := (uw_t 1513 (by decide +kernel) (by decide +kernel))
theorem ws_X11_singerOf : Cond.selects yX11_singerOf.cls yX11_singerOf yX11_singerOf ∈ UW := (uw_s 70 (by decide +kernel) (by decide +kernel))
theorem mv_RX11_252 : MV RX11 252 yX11_singerOf cX11_singerOf 4 (some .int) 1 := ⟨⟨(uw_t 1511 (by decide +kernel) (by decide +kernel)), wm_X11_singerOf, ws_X11_singerOf, wi_RX11, wc_X11_singerOf⟩, wp_X11_singerOf⟩
theorem wc_X11_farBy : Cond.code yX11_farBy cX11_farBy 3 (some .int) ∈ UW := (uw_t 1529 (by decide +kernel) (by decide +kernel))
theorem wp_X11_farBy : yX11_farBy.cls ≠ "java/lang/invoke/MethodHandle" ∧ yX11_farBy.cls ≠ "java/lang/invoke/VarHandle" ∧ (parseMethodDescriptor yX11_farBy.desc).map (fun d => d.parameters.length) = some 1 := by decide +kernel
theorem wm_X11_farBy : Cond.instanceMethod yX11_farBy ∈ UW := (uw_t 1528 (by decide +kernel) (by decide +kernel))
theorem ws_X11_farBy : Cond.selects yX11_farBy.cls yX11_farBy yX11_farBy ∈ UW := (uw_s 71 (by decide +kernel) (by decide +kernel))
theorem mv_RX11_258 : MV RX11 258 yX11_farBy cX11_farBy 3 (some .int) 1 := ⟨⟨(uw_t 1526 (by decide +kernel) (by decide +kernel)), wm_X11_farBy, ws_X11_farBy, wi_RX11, wc_X11_farBy⟩, wp_X11_farBy⟩
theorem wc_X11_isReached : Cond.code yX11_isReached cX11_isReached 4 (some .boolean) ∈ UW := (uw_t 1533 (by decide +kernel) (by decide +kernel))
theorem wp_X11_isReached : yX11_isReached.cls ≠ "java/lang/invoke/MethodHandle" ∧ yX11_isReached.cls ≠ "java/lang/invoke/VarHandle" ∧ (parseMethodDescriptor yX11_isReached.desc).map (fun d => d.parameters.length) = some 1 := by decide +kernel
theorem wm_X11_isReached : Cond.instanceMethod yX11_isReached ∈ UW := (uw_t 1532 (by decide +kernel) (by decide +kernel))
theorem ws_X11_isReached : Cond.selects yX11_isReached.cls yX11_isReached yX11_isReached ∈ UW := (uw_s 72 (by decide +kernel) (by decide +kernel))
theorem mv_RX11_261 : MV RX11 261 yX11_isReached cX11_isReached 4 (some .boolean) 1 := ⟨⟨(uw_t 1530 (by decide +kernel) (by decide +kernel)), wm_X11_isReached, ws_X11_isReached, wi_RX11, wc_X11_isReached⟩, wp_X11_isReached⟩
theorem wc_X11_floorOf : Cond.code yX11_floorOf cX11_floorOf 2 (some .int) ∈ UW := (uw_t 1549 (by decide +kernel) (by decide +kernel))
theorem wp_X11_floorOf : yX11_floorOf.cls ≠ "java/lang/invoke/MethodHandle" ∧ yX11_floorOf.cls ≠ "java/lang/invoke/VarHandle" ∧ (parseMethodDescriptor yX11_floorOf.desc).map (fun d => d.parameters.length) = some 1 := by decide +kernel
theorem wm_X11_floorOf : Cond.instanceMethod yX11_floorOf ∈ UW := (uw_t 1548 (by decide +kernel) (by decide +kernel))
theorem ws_X11_floorOf : Cond.selects yX11_floorOf.cls yX11_floorOf yX11_floorOf ∈ UW := (uw_s 74 (by decide +kernel) (by decide +kernel))
theorem mv_RX11_265 : MV RX11 265 yX11_floorOf cX11_floorOf 2 (some .int) 1 := ⟨⟨(uw_t 1546 (by decide +kernel) (by decide +kernel)), wm_X11_floorOf, ws_X11_floorOf, wi_RX11, wc_X11_floorOf⟩, wp_X11_floorOf⟩
theorem wc_X11_dreamsBy : Cond.code yX11_dreamsBy cX11_dreamsBy 4 (some .int) ∈ UW := (uw_t 1545 (by decide +kernel) (by decide +kernel))
theorem wp_X11_dreamsBy : yX11_dreamsBy.cls ≠ "java/lang/invoke/MethodHandle" ∧ yX11_dreamsBy.cls ≠ "java/lang/invoke/VarHandle" ∧ (parseMethodDescriptor yX11_dreamsBy.desc).map (fun d => d.parameters.length) = some 1 := by decide +kernel
theorem wm_X11_dreamsBy : Cond.instanceMethod yX11_dreamsBy ∈ UW := (uw_t 1544 (by decide +kernel) (by decide +kernel))
theorem ws_X11_dreamsBy : Cond.selects yX11_dreamsBy.cls yX11_dreamsBy yX11_dreamsBy ∈ UW := (uw_s 73 (by decide +kernel) (by decide +kernel))
theorem mv_RX11_268 : MV RX11 268 yX11_dreamsBy cX11_dreamsBy 4 (some .int) 1 := ⟨⟨(uw_t 1542 (by decide +kernel) (by decide +kernel)), wm_X11_dreamsBy, ws_X11_dreamsBy, wi_RX11, wc_X11_dreamsBy⟩, wp_X11_dreamsBy⟩
theorem wc_X11_peopleIn : Cond.code yX11_peopleIn cX11_peopleIn 4 (some .int) ∈ UW := (uw_t 1553 (by decide +kernel) (by decide +kernel))
theorem wp_X11_peopleIn : yX11_peopleIn.cls ≠ "java/lang/invoke/MethodHandle" ∧ yX11_peopleIn.cls ≠ "java/lang/invoke/VarHandle" ∧ (parseMethodDescriptor yX11_peopleIn.desc).map (fun d => d.parameters.length) = some 1 := by decide +kernel
theorem wm_X11_peopleIn : Cond.instanceMethod yX11_peopleIn ∈ UW := (uw_t 1552 (by decide +kernel) (by decide +kernel))
theorem ws_X11_peopleIn : Cond.selects yX11_peopleIn.cls yX11_peopleIn yX11_peopleIn ∈ UW := (uw_s 75 (by decide +kernel) (by decide +kernel))
theorem mv_RX11_271 : MV RX11 271 yX11_peopleIn cX11_peopleIn 4 (some .int) 1 := ⟨⟨(uw_t 1550 (by decide +kernel) (by decide +kernel)), wm_X11_peopleIn, ws_X11_peopleIn, wi_RX11, wc_X11_peopleIn⟩, wp_X11_peopleIn⟩
theorem wc_X11_spareOf : Cond.code yX11_spareOf cX11_spareOf 3 (some .int) ∈ UW := (uw_t 1557 (by decide +kernel) (by decide +kernel))
theorem wp_X11_spareOf : yX11_spareOf.cls ≠ "java/lang/invoke/MethodHandle" ∧ yX11_spareOf.cls ≠ "java/lang/invoke/VarHandle" ∧ (parseMethodDescriptor yX11_spareOf.desc).map (fun d => d.parameters.length) = some 0 := by decide +kernel
theorem wm_X11_spareOf : Cond.instanceMethod yX11_spareOf ∈ UW := (uw_t 1556 (by decide +kernel) (by decide +kernel))
theorem ws_X11_spareOf : Cond.selects yX11_spareOf.cls yX11_spareOf yX11_spareOf ∈ UW := (uw_s 76 (by decide +kernel) (by decide +kernel))
theorem mv_RX11_274 : MV RX11 274 yX11_spareOf cX11_spareOf 3 (some .int) 0 := ⟨⟨(uw_t 1554 (by decide +kernel) (by decide +kernel)), wm_X11_spareOf, ws_X11_spareOf, wi_RX11, wc_X11_spareOf⟩, wp_X11_spareOf⟩
theorem wc_X11_rotasOf : Cond.code yX11_rotasOf cX11_rotasOf 2 (some .int) ∈ UW := (uw_t 1561 (by decide +kernel) (by decide +kernel))
theorem wp_X11_rotasOf : yX11_rotasOf.cls ≠ "java/lang/invoke/MethodHandle" ∧ yX11_rotasOf.cls ≠ "java/lang/invoke/VarHandle" ∧ (parseMethodDescriptor yX11_rotasOf.desc).map (fun d => d.parameters.length) = some 0 := by decide +kernel
theorem wm_X11_rotasOf : Cond.instanceMethod yX11_rotasOf ∈ UW := (uw_t 1560 (by decide +kernel) (by decide +kernel))
theorem ws_X11_rotasOf : Cond.selects yX11_rotasOf.cls yX11_rotasOf yX11_rotasOf ∈ UW := (uw_s 77 (by decide +kernel) (by decide +kernel))
theorem mv_RX11_277 : MV RX11 277 yX11_rotasOf cX11_rotasOf 2 (some .int) 0 := ⟨⟨(uw_t 1558 (by decide +kernel) (by decide +kernel)), wm_X11_rotasOf, ws_X11_rotasOf, wi_RX11, wc_X11_rotasOf⟩, wp_X11_rotasOf⟩
theorem wc_X11_cureOf : Cond.code yX11_cureOf cX11_cureOf 2 (some .int) ∈ UW := (uw_t 1566 (by decide +kernel) (by decide +kernel))
theorem wp_X11_cureOf : yX11_cureOf.cls ≠ "java/lang/invoke/MethodHandle" ∧ yX11_cureOf.cls ≠ "java/lang/invoke/VarHandle" ∧ (parseMethodDescriptor yX11_cureOf.desc).map (fun d => d.parameters.length) = some 0 := by decide +kernel
theorem wm_X11_cureOf : Cond.instanceMethod yX11_cureOf ∈ UW := (uw_t 1565 (by decide +kernel) (by decide +kernel))
theorem ws_X11_cureOf : Cond.selects yX11_cureOf.cls yX11_cureOf yX11_cureOf ∈ UW := (uw_s 78 (by decide +kernel) (by decide +kernel))
theorem mv_RX11_280 : MV RX11 280 yX11_cureOf cX11_cureOf 2 (some .int) 0 := ⟨⟨(uw_t 1563 (by decide +kernel) (by decide +kernel)), wm_X11_cureOf, ws_X11_cureOf, wi_RX11, wc_X11_cureOf⟩, wp_X11_cureOf⟩
theorem wc_X11_sounds : Cond.code yX11_sounds cX11_sounds 6 (some .boolean) ∈ UW := (uw_t 1586 (by decide +kernel) (by decide +kernel))
theorem wp_X11_sounds : yX11_sounds.cls ≠ "java/lang/invoke/MethodHandle" ∧ yX11_sounds.cls ≠ "java/lang/invoke/VarHandle" ∧ (parseMethodDescriptor yX11_sounds.desc).map (fun d => d.parameters.length) = some 1 := by decide +kernel
theorem wm_X11_sounds : Cond.instanceMethod yX11_sounds ∈ UW := (uw_t 1585 (by decide +kernel) (by decide +kernel))
theorem ws_X11_sounds : Cond.selects yX11_sounds.cls yX11_sounds yX11_sounds ∈ UW := (uw_s 79 (by decide +kernel) (by decide +kernel))
theorem mv_RX11_283 : MV RX11 283 yX11_sounds cX11_sounds 6 (some .boolean) 1 := ⟨⟨(uw_t 1583 (by decide +kernel) (by decide +kernel)), wm_X11_sounds, ws_X11_sounds, wi_RX11, wc_X11_sounds⟩, wp_X11_sounds⟩
theorem wc_X11_shiftedBy : Cond.code yX11_shiftedBy cX11_shiftedBy 4 (some .int) ∈ UW := (uw_t 1594 (by decide +kernel) (by decide +kernel))
theorem wp_X11_shiftedBy : yX11_shiftedBy.cls ≠ "java/lang/invoke/MethodHandle" ∧ yX11_shiftedBy.cls ≠ "java/lang/invoke/VarHandle" ∧ (parseMethodDescriptor yX11_shiftedBy.desc).map (fun d => d.parameters.length) = some 1 := by decide +kernel
theorem wm_X11_shiftedBy : Cond.instanceMethod yX11_shiftedBy ∈ UW := (uw_t 1593 (by decide +kernel) (by decide +kernel))
theorem ws_X11_shiftedBy : Cond.selects yX11_shiftedBy.cls yX11_shiftedBy yX11_shiftedBy ∈ UW := (uw_s 80 (by decide +kernel) (by decide +kernel))
theorem mv_RX11_286 : MV RX11 286 yX11_shiftedBy cX11_shiftedBy 4 (some .int) 1 := ⟨⟨(uw_t 1591 (by decide +kernel) (by decide +kernel)), wm_X11_shiftedBy, ws_X11_shiftedBy, wi_RX11, wc_X11_shiftedBy⟩, wp_X11_shiftedBy⟩
theorem wc_X11_riskOf : Cond.code yX11_riskOf cX11_riskOf 2 (some .int) ∈ UW := (uw_t 1623 (by decide +kernel) (by decide +kernel))
theorem wp_X11_riskOf : yX11_riskOf.cls ≠ "java/lang/invoke/MethodHandle" ∧ yX11_riskOf.cls ≠ "java/lang/invoke/VarHandle" ∧ (parseMethodDescriptor yX11_riskOf.desc).map (fun d => d.parameters.length) = some 1 := by decide +kernel
theorem wm_X11_riskOf : Cond.instanceMethod yX11_riskOf ∈ UW := (uw_t 1622 (by decide +kernel) (by decide +kernel))
theorem ws_X11_riskOf : Cond.selects yX11_riskOf.cls yX11_riskOf yX11_riskOf ∈ UW := (uw_s 84 (by decide +kernel) (by decide +kernel))
theorem mv_RX11_291 : MV RX11 291 yX11_riskOf cX11_riskOf 2 (some .int) 1 := ⟨⟨(uw_t 1620 (by decide +kernel) (by decide +kernel)), wm_X11_riskOf, ws_X11_riskOf, wi_RX11, wc_X11_riskOf⟩, wp_X11_riskOf⟩
theorem wc_X11_asleep : Cond.code yX11_asleep cX11_asleep 5 (some .long) ∈ UW := (uw_t 1619 (by decide +kernel) (by decide +kernel))
theorem wp_X11_asleep : yX11_asleep.cls ≠ "java/lang/invoke/MethodHandle" ∧ yX11_asleep.cls ≠ "java/lang/invoke/VarHandle" ∧ (parseMethodDescriptor yX11_asleep.desc).map (fun d => d.parameters.length) = some 1 := by decide +kernel
theorem wm_X11_asleep : Cond.instanceMethod yX11_asleep ∈ UW := (uw_t 1618 (by decide +kernel) (by decide +kernel))
theorem ws_X11_asleep : Cond.selects yX11_asleep.cls yX11_asleep yX11_asleep ∈ UW := (uw_s 83 (by decide +kernel) (by decide +kernel))
theorem mv_RX11_298 : MV RX11 298 yX11_asleep cX11_asleep 5 (some .long) 1 := ⟨⟨(uw_t 1616 (by decide +kernel) (by decide +kernel)), wm_X11_asleep, ws_X11_asleep, wi_RX11, wc_X11_asleep⟩, wp_X11_asleep⟩
theorem wc_X11_floorsAsTold : Cond.code yX11_floorsAsTold cX11_floorsAsTold 2 none ∈ UW := (uw_t 1607 (by decide +kernel) (by decide +kernel))
theorem wp_X11_floorsAsTold : yX11_floorsAsTold.cls ≠ "java/lang/invoke/MethodHandle" ∧ yX11_floorsAsTold.cls ≠ "java/lang/invoke/VarHandle" ∧ (parseMethodDescriptor yX11_floorsAsTold.desc).map (fun d => d.parameters.length) = some 0 := by decide +kernel
theorem wm_X11_floorsAsTold : Cond.instanceMethod yX11_floorsAsTold ∈ UW := (uw_t 1606 (by decide +kernel) (by decide +kernel))
theorem ws_X11_floorsAsTold : Cond.selects yX11_floorsAsTold.cls yX11_floorsAsTold yX11_floorsAsTold ∈ UW := (uw_s 81 (by decide +kernel) (by decide +kernel))
theorem mv_RX11_303 : MV RX11 303 yX11_floorsAsTold cX11_floorsAsTold 2 none 0 := ⟨⟨(uw_t 1604 (by decide +kernel) (by decide +kernel)), wm_X11_floorsAsTold, ws_X11_floorsAsTold, wi_RX11, wc_X11_floorsAsTold⟩, wp_X11_floorsAsTold⟩
theorem wc_X11_wakesOf : Cond.code yX11_wakesOf cX11_wakesOf 4 (some .long) ∈ UW := (uw_t 1611 (by decide +kernel) (by decide +kernel))
theorem wp_X11_wakesOf : yX11_wakesOf.cls ≠ "java/lang/invoke/MethodHandle" ∧ yX11_wakesOf.cls ≠ "java/lang/invoke/VarHandle" ∧ (parseMethodDescriptor yX11_wakesOf.desc).map (fun d => d.parameters.length) = some 0 := by decide +kernel
theorem wm_X11_wakesOf : Cond.instanceMethod yX11_wakesOf ∈ UW := (uw_t 1610 (by decide +kernel) (by decide +kernel))
theorem ws_X11_wakesOf : Cond.selects yX11_wakesOf.cls yX11_wakesOf yX11_wakesOf ∈ UW := (uw_s 82 (by decide +kernel) (by decide +kernel))
theorem mv_RX11_306 : MV RX11 306 yX11_wakesOf cX11_wakesOf 4 (some .long) 0 := ⟨⟨(uw_t 1608 (by decide +kernel) (by decide +kernel)), wm_X11_wakesOf, ws_X11_wakesOf, wi_RX11, wc_X11_wakesOf⟩, wp_X11_wakesOf⟩
theorem wc_X11_upFrom : Cond.code yX11_upFrom cX11_upFrom 4 (some .int) ∈ UW := (uw_t 1646 (by decide +kernel) (by decide +kernel))
theorem wp_X11_upFrom : yX11_upFrom.cls ≠ "java/lang/invoke/MethodHandle" ∧ yX11_upFrom.cls ≠ "java/lang/invoke/VarHandle" ∧ (parseMethodDescriptor yX11_upFrom.desc).map (fun d => d.parameters.length) = some 1 := by decide +kernel
theorem wm_X11_upFrom : Cond.instanceMethod yX11_upFrom ∈ UW := (uw_t 1645 (by decide +kernel) (by decide +kernel))
theorem ws_X11_upFrom : Cond.selects yX11_upFrom.cls yX11_upFrom yX11_upFrom ∈ UW := (uw_s 87 (by decide +kernel) (by decide +kernel))
theorem mv_RX11_314 : MV RX11 314 yX11_upFrom cX11_upFrom 4 (some .int) 1 := ⟨⟨(uw_t 1643 (by decide +kernel) (by decide +kernel)), wm_X11_upFrom, ws_X11_upFrom, wi_RX11, wc_X11_upFrom⟩, wp_X11_upFrom⟩
theorem wc_X11_roofOf : Cond.code yX11_roofOf cX11_roofOf 2 (some .int) ∈ UW := (uw_t 1642 (by decide +kernel) (by decide +kernel))
theorem wp_X11_roofOf : yX11_roofOf.cls ≠ "java/lang/invoke/MethodHandle" ∧ yX11_roofOf.cls ≠ "java/lang/invoke/VarHandle" ∧ (parseMethodDescriptor yX11_roofOf.desc).map (fun d => d.parameters.length) = some 1 := by decide +kernel
theorem wm_X11_roofOf : Cond.instanceMethod yX11_roofOf ∈ UW := (uw_t 1641 (by decide +kernel) (by decide +kernel))
theorem ws_X11_roofOf : Cond.selects yX11_roofOf.cls yX11_roofOf yX11_roofOf ∈ UW := (uw_s 86 (by decide +kernel) (by decide +kernel))
theorem mv_RX11_317 : MV RX11 317 yX11_roofOf cX11_roofOf 2 (some .int) 1 := ⟨⟨(uw_t 1639 (by decide +kernel) (by decide +kernel)), wm_X11_roofOf, ws_X11_roofOf, wi_RX11, wc_X11_roofOf⟩, wp_X11_roofOf⟩
theorem wc_X11_isAlike : Cond.code yX11_isAlike cX11_isAlike 6 (some .boolean) ∈ UW := (uw_t 1662 (by decide +kernel) (by decide +kernel))
theorem wp_X11_isAlike : yX11_isAlike.cls ≠ "java/lang/invoke/MethodHandle" ∧ yX11_isAlike.cls ≠ "java/lang/invoke/VarHandle" ∧ (parseMethodDescriptor yX11_isAlike.desc).map (fun d => d.parameters.length) = some 3 := by decide +kernel
theorem wm_X11_isAlike : Cond.instanceMethod yX11_isAlike ∈ UW := (uw_t 1661 (by decide +kernel) (by decide +kernel))
theorem ws_X11_isAlike : Cond.selects yX11_isAlike.cls yX11_isAlike yX11_isAlike ∈ UW := (uw_s 91 (by decide +kernel) (by decide +kernel))
theorem mv_RX11_320 : MV RX11 320 yX11_isAlike cX11_isAlike 6 (some .boolean) 3 := ⟨⟨(uw_t 1659 (by decide +kernel) (by decide +kernel)), wm_X11_isAlike, ws_X11_isAlike, wi_RX11, wc_X11_isAlike⟩, wp_X11_isAlike⟩
theorem wc_X11_quietestOf : Cond.code yX11_quietestOf cX11_quietestOf 3 (some .int) ∈ UW := (uw_t 1638 (by decide +kernel) (by decide +kernel))
theorem wp_X11_quietestOf : yX11_quietestOf.cls ≠ "java/lang/invoke/MethodHandle" ∧ yX11_quietestOf.cls ≠ "java/lang/invoke/VarHandle" ∧ (parseMethodDescriptor yX11_quietestOf.desc).map (fun d => d.parameters.length) = some 0 := by decide +kernel
theorem wm_X11_quietestOf : Cond.instanceMethod yX11_quietestOf ∈ UW := (uw_t 1637 (by decide +kernel) (by decide +kernel))
theorem ws_X11_quietestOf : Cond.selects yX11_quietestOf.cls yX11_quietestOf yX11_quietestOf ∈ UW := (uw_s 85 (by decide +kernel) (by decide +kernel))
theorem mv_RX11_323 : MV RX11 323 yX11_quietestOf cX11_quietestOf 3 (some .int) 0 := ⟨⟨(uw_t 1635 (by decide +kernel) (by decide +kernel)), wm_X11_quietestOf, ws_X11_quietestOf, wi_RX11, wc_X11_quietestOf⟩, wp_X11_quietestOf⟩
theorem wc_X11_rentsOf : Cond.code yX11_rentsOf cX11_rentsOf 3 (some .int) ∈ UW := (uw_t 1650 (by decide +kernel) (by decide +kernel))
theorem wp_X11_rentsOf : yX11_rentsOf.cls ≠ "java/lang/invoke/MethodHandle" ∧ yX11_rentsOf.cls ≠ "java/lang/invoke/VarHandle" ∧ (parseMethodDescriptor yX11_rentsOf.desc).map (fun d => d.parameters.length) = some 0 := by decide +kernel
theorem wm_X11_rentsOf : Cond.instanceMethod yX11_rentsOf ∈ UW := (uw_t 1649 (by decide +kernel) (by decide +kernel))
theorem ws_X11_rentsOf : Cond.selects yX11_rentsOf.cls yX11_rentsOf yX11_rentsOf ∈ UW := (uw_s 88 (by decide +kernel) (by decide +kernel))
theorem mv_RX11_326 : MV RX11 326 yX11_rentsOf cX11_rentsOf 3 (some .int) 0 := ⟨⟨(uw_t 1647 (by decide +kernel) (by decide +kernel)), wm_X11_rentsOf, ws_X11_rentsOf, wi_RX11, wc_X11_rentsOf⟩, wp_X11_rentsOf⟩
theorem wc_X11_climbOf : Cond.code yX11_climbOf cX11_climbOf 7 (some .int) ∈ UW := (uw_t 1654 (by decide +kernel) (by decide +kernel))
theorem wp_X11_climbOf : yX11_climbOf.cls ≠ "java/lang/invoke/MethodHandle" ∧ yX11_climbOf.cls ≠ "java/lang/invoke/VarHandle" ∧ (parseMethodDescriptor yX11_climbOf.desc).map (fun d => d.parameters.length) = some 1 := by decide +kernel
theorem wm_X11_climbOf : Cond.instanceMethod yX11_climbOf ∈ UW := (uw_t 1653 (by decide +kernel) (by decide +kernel))
theorem ws_X11_climbOf : Cond.selects yX11_climbOf.cls yX11_climbOf yX11_climbOf ∈ UW := (uw_s 89 (by decide +kernel) (by decide +kernel))
theorem mv_RX11_329 : MV RX11 329 yX11_climbOf cX11_climbOf 7 (some .int) 1 := ⟨⟨(uw_t 1651 (by decide +kernel) (by decide +kernel)), wm_X11_climbOf, ws_X11_climbOf, wi_RX11, wc_X11_climbOf⟩, wp_X11_climbOf⟩
theorem wc_X11_echoOf : Cond.code yX11_echoOf cX11_echoOf 5 (some .int) ∈ UW := (uw_t 1658 (by decide +kernel) (by decide +kernel))
theorem wp_X11_echoOf : yX11_echoOf.cls ≠ "java/lang/invoke/MethodHandle" ∧ yX11_echoOf.cls ≠ "java/lang/invoke/VarHandle" ∧ (parseMethodDescriptor yX11_echoOf.desc).map (fun d => d.parameters.length) = some 1 := by decide +kernel
theorem wm_X11_echoOf : Cond.instanceMethod yX11_echoOf ∈ UW := (uw_t 1657 (by decide +kernel) (by decide +kernel))
theorem ws_X11_echoOf : Cond.selects yX11_echoOf.cls yX11_echoOf yX11_echoOf ∈ UW := (uw_s 90 (by decide +kernel) (by decide +kernel))
theorem mv_RX11_333 : MV RX11 333 yX11_echoOf cX11_echoOf 5 (some .int) 1 := ⟨⟨(uw_t 1655 (by decide +kernel) (by decide +kernel)), wm_X11_echoOf, ws_X11_echoOf, wi_RX11, wc_X11_echoOf⟩, wp_X11_echoOf⟩
theorem wc_X11_barsOn : Cond.code yX11_barsOn cX11_barsOn 4 (some .int) ∈ UW := (uw_t 1682 (by decide +kernel) (by decide +kernel))
theorem wp_X11_barsOn : yX11_barsOn.cls ≠ "java/lang/invoke/MethodHandle" ∧ yX11_barsOn.cls ≠ "java/lang/invoke/VarHandle" ∧ (parseMethodDescriptor yX11_barsOn.desc).map (fun d => d.parameters.length) = some 1 := by decide +kernel
theorem wm_X11_barsOn : Cond.instanceMethod yX11_barsOn ∈ UW := (uw_t 1681 (by decide +kernel) (by decide +kernel))
theorem ws_X11_barsOn : Cond.selects yX11_barsOn.cls yX11_barsOn yX11_barsOn ∈ UW := (uw_s 92 (by decide +kernel) (by decide +kernel))
theorem mv_RX11_336 : MV RX11 336 yX11_barsOn cX11_barsOn 4 (some .int) 1 := ⟨⟨(uw_t 1679 (by decide +kernel) (by decide +kernel)), wm_X11_barsOn, ws_X11_barsOn, wi_RX11, wc_X11_barsOn⟩, wp_X11_barsOn⟩
theorem wc_X11_laysTurn : Cond.code yX11_laysTurn cX11_laysTurn 2 none ∈ UW := (uw_t 1694 (by decide +kernel) (by decide +kernel))
theorem wp_X11_laysTurn : yX11_laysTurn.cls ≠ "java/lang/invoke/MethodHandle" ∧ yX11_laysTurn.cls ≠ "java/lang/invoke/VarHandle" ∧ (parseMethodDescriptor yX11_laysTurn.desc).map (fun d => d.parameters.length) = some 1 := by decide +kernel
theorem wm_X11_laysTurn : Cond.instanceMethod yX11_laysTurn ∈ UW := (uw_t 1693 (by decide +kernel) (by decide +kernel))
theorem ws_X11_laysTurn : Cond.selects yX11_laysTurn.cls yX11_laysTurn yX11_laysTurn ∈ UW := (uw_s 94 (by decide +kernel) (by decide +kernel))
theorem mv_RX11_342 : MV RX11 342 yX11_laysTurn cX11_laysTurn 2 none 1 := ⟨⟨(uw_t 1691 (by decide +kernel) (by decide +kernel)), wm_X11_laysTurn, ws_X11_laysTurn, wi_RX11, wc_X11_laysTurn⟩, wp_X11_laysTurn⟩
theorem wc_X11_mayTurn : Cond.code yX11_mayTurn cX11_mayTurn 5 (some .boolean) ∈ UW := (uw_t 1698 (by decide +kernel) (by decide +kernel))
theorem wp_X11_mayTurn : yX11_mayTurn.cls ≠ "java/lang/invoke/MethodHandle" ∧ yX11_mayTurn.cls ≠ "java/lang/invoke/VarHandle" ∧ (parseMethodDescriptor yX11_mayTurn.desc).map (fun d => d.parameters.length) = some 2 := by decide +kernel
theorem wm_X11_mayTurn : Cond.instanceMethod yX11_mayTurn ∈ UW := (uw_t 1697 (by decide +kernel) (by decide +kernel))
theorem ws_X11_mayTurn : Cond.selects yX11_mayTurn.cls yX11_mayTurn yX11_mayTurn ∈ UW := (uw_s 95 (by decide +kernel) (by decide +kernel))
theorem mv_RX11_345 : MV RX11 345 yX11_mayTurn cX11_mayTurn 5 (some .boolean) 2 := ⟨⟨(uw_t 1695 (by decide +kernel) (by decide +kernel)), wm_X11_mayTurn, ws_X11_mayTurn, wi_RX11, wc_X11_mayTurn⟩, wp_X11_mayTurn⟩
theorem wc_X11_endsWith : Cond.code yX11_endsWith cX11_endsWith 4 (some .int) ∈ UW := (uw_t 1702 (by decide +kernel) (by decide +kernel))
theorem wp_X11_endsWith : yX11_endsWith.cls ≠ "java/lang/invoke/MethodHandle" ∧ yX11_endsWith.cls ≠ "java/lang/invoke/VarHandle" ∧ (parseMethodDescriptor yX11_endsWith.desc).map (fun d => d.parameters.length) = some 1 := by decide +kernel
theorem wm_X11_endsWith : Cond.instanceMethod yX11_endsWith ∈ UW := (uw_t 1701 (by decide +kernel) (by decide +kernel))
theorem ws_X11_endsWith : Cond.selects yX11_endsWith.cls yX11_endsWith yX11_endsWith ∈ UW := (uw_s 96 (by decide +kernel) (by decide +kernel))
theorem mv_RX11_348 : MV RX11 348 yX11_endsWith cX11_endsWith 4 (some .int) 1 := ⟨⟨(uw_t 1699 (by decide +kernel) (by decide +kernel)), wm_X11_endsWith, ws_X11_endsWith, wi_RX11, wc_X11_endsWith⟩, wp_X11_endsWith⟩
theorem wc_X11_turns : Cond.code yX11_turns cX11_turns 3 none ∈ UW := (uw_t 1706 (by decide +kernel) (by decide +kernel))
theorem wp_X11_turns : yX11_turns.cls ≠ "java/lang/invoke/MethodHandle" ∧ yX11_turns.cls ≠ "java/lang/invoke/VarHandle" ∧ (parseMethodDescriptor yX11_turns.desc).map (fun d => d.parameters.length) = some 2 := by decide +kernel
theorem wm_X11_turns : Cond.instanceMethod yX11_turns ∈ UW := (uw_t 1705 (by decide +kernel) (by decide +kernel))
theorem ws_X11_turns : Cond.selects yX11_turns.cls yX11_turns yX11_turns ∈ UW := (uw_s 97 (by decide +kernel) (by decide +kernel))
theorem mv_RX11_351 : MV RX11 351 yX11_turns cX11_turns 3 none 2 := ⟨⟨(uw_t 1703 (by decide +kernel) (by decide +kernel)), wm_X11_turns, ws_X11_turns, wi_RX11, wc_X11_turns⟩, wp_X11_turns⟩
theorem wc_X11_tussleOf : Cond.code yX11_tussleOf cX11_tussleOf 5 (some .int) ∈ UW := (uw_t 1690 (by decide +kernel) (by decide +kernel))
theorem wp_X11_tussleOf : yX11_tussleOf.cls ≠ "java/lang/invoke/MethodHandle" ∧ yX11_tussleOf.cls ≠ "java/lang/invoke/VarHandle" ∧ (parseMethodDescriptor yX11_tussleOf.desc).map (fun d => d.parameters.length) = some 1 := by decide +kernel
theorem wm_X11_tussleOf : Cond.instanceMethod yX11_tussleOf ∈ UW := (uw_t 1689 (by decide +kernel) (by decide +kernel))
theorem ws_X11_tussleOf : Cond.selects yX11_tussleOf.cls yX11_tussleOf yX11_tussleOf ∈ UW := (uw_s 93 (by decide +kernel) (by decide +kernel))
theorem mv_RX11_354 : MV RX11 354 yX11_tussleOf cX11_tussleOf 5 (some .int) 1 := ⟨⟨(uw_t 1687 (by decide +kernel) (by decide +kernel)), wm_X11_tussleOf, ws_X11_tussleOf, wi_RX11, wc_X11_tussleOf⟩, wp_X11_tussleOf⟩
theorem wc_X11_isWalled : Cond.code yX11_isWalled cX11_isWalled 2 (some .boolean) ∈ UW := (uw_t 1726 (by decide +kernel) (by decide +kernel))
theorem wp_X11_isWalled : yX11_isWalled.cls ≠ "java/lang/invoke/MethodHandle" ∧ yX11_isWalled.cls ≠ "java/lang/invoke/VarHandle" ∧ (parseMethodDescriptor yX11_isWalled.desc).map (fun d => d.parameters.length) = some 1 := by decide +kernel
theorem wm_X11_isWalled : Cond.instanceMethod yX11_isWalled ∈ UW := (uw_t 1725 (by decide +kernel) (by decide +kernel))
theorem ws_X11_isWalled : Cond.selects yX11_isWalled.cls yX11_isWalled yX11_isWalled ∈ UW := (uw_s 101 (by decide +kernel) (by decide +kernel))
theorem mv_RX11_357 : MV RX11 357 yX11_isWalled cX11_isWalled 2 (some .boolean) 1 := ⟨⟨(uw_t 1723 (by decide +kernel) (by decide +kernel)), wm_X11_isWalled, ws_X11_isWalled, wi_RX11, wc_X11_isWalled⟩, wp_X11_isWalled⟩
theorem wc_X11_isNear : Cond.code yX11_isNear cX11_isNear 3 (some .boolean) ∈ UW := (uw_t 1718 (by decide +kernel) (by decide +kernel))
theorem wp_X11_isNear : yX11_isNear.cls ≠ "java/lang/invoke/MethodHandle" ∧ yX11_isNear.cls ≠ "java/lang/invoke/VarHandle" ∧ (parseMethodDescriptor yX11_isNear.desc).map (fun d => d.parameters.length) = some 2 := by decide +kernel
theorem wm_X11_isNear : Cond.instanceMethod yX11_isNear ∈ UW := (uw_t 1717 (by decide +kernel) (by decide +kernel))
theorem ws_X11_isNear : Cond.selects yX11_isNear.cls yX11_isNear yX11_isNear ∈ UW := (uw_s 99 (by decide +kernel) (by decide +kernel))
theorem mv_RX11_360 : MV RX11 360 yX11_isNear cX11_isNear 3 (some .boolean) 2 := ⟨⟨(uw_t 1715 (by decide +kernel) (by decide +kernel)), wm_X11_isNear, ws_X11_isNear, wi_RX11, wc_X11_isNear⟩, wp_X11_isNear⟩
theorem wc_X11_mayBe : Cond.code yX11_mayBe cX11_mayBe 3 (some .boolean) ∈ UW := (uw_t 1722 (by decide +kernel) (by decide +kernel))
theorem wp_X11_mayBe : yX11_mayBe.cls ≠ "java/lang/invoke/MethodHandle" ∧ yX11_mayBe.cls ≠ "java/lang/invoke/VarHandle" ∧ (parseMethodDescriptor yX11_mayBe.desc).map (fun d => d.parameters.length) = some 2 := by decide +kernel
theorem wm_X11_mayBe : Cond.instanceMethod yX11_mayBe ∈ UW := (uw_t 1721 (by decide +kernel) (by decide +kernel))
theorem ws_X11_mayBe : Cond.selects yX11_mayBe.cls yX11_mayBe yX11_mayBe ∈ UW := (uw_s 100 (by decide +kernel) (by decide +kernel))
theorem mv_RX11_363 : MV RX11 363 yX11_mayBe cX11_mayBe 3 (some .boolean) 2 := ⟨⟨(uw_t 1719 (by decide +kernel) (by decide +kernel)), wm_X11_mayBe, ws_X11_mayBe, wi_RX11, wc_X11_mayBe⟩, wp_X11_mayBe⟩
theorem wc_X11_laysTunes : Cond.code yX11_laysTunes cX11_laysTunes 5 none ∈ UW := (uw_t 1714 (by decide +kernel) (by decide +kernel))
theorem wp_X11_laysTunes : yX11_laysTunes.cls ≠ "java/lang/invoke/MethodHandle" ∧ yX11_laysTunes.cls ≠ "java/lang/invoke/VarHandle" ∧ (parseMethodDescriptor yX11_laysTunes.desc).map (fun d => d.parameters.length) = some 0 := by decide +kernel
theorem wm_X11_laysTunes : Cond.instanceMethod yX11_laysTunes ∈ UW := (uw_t 1713 (by decide +kernel) (by decide +kernel))
theorem ws_X11_laysTunes : Cond.selects yX11_laysTunes.cls yX11_laysTunes yX11_laysTunes ∈ UW := (uw_s 98 (by decide +kernel) (by decide +kernel))
theorem mv_RX11_366 : MV RX11 366 yX11_laysTunes cX11_laysTunes 5 none 0 := ⟨⟨(uw_t 1711 (by decide +kernel) (by decide +kernel)), wm_X11_laysTunes, ws_X11_laysTunes, wi_RX11, wc_X11_laysTunes⟩, wp_X11_laysTunes⟩
theorem wc_X11_tunesOf : Cond.code yX11_tunesOf cX11_tunesOf 3 (some .int) ∈ UW := (uw_t 1730 (by decide +kernel) (by decide +kernel))
theorem wp_X11_tunesOf : yX11_tunesOf.cls ≠ "java/lang/invoke/MethodHandle" ∧ yX11_tunesOf.cls ≠ "java/lang/invoke/VarHandle" ∧ (parseMethodDescriptor yX11_tunesOf.desc).map (fun d => d.parameters.length) = some 0 := by decide +kernel
theorem wm_X11_tunesOf : Cond.instanceMethod yX11_tunesOf ∈ UW := (uw_t 1729 (by decide +kernel) (by decide +kernel))
theorem ws_X11_tunesOf : Cond.selects yX11_tunesOf.cls yX11_tunesOf yX11_tunesOf ∈ UW := (uw_s 102 (by decide +kernel) (by decide +kernel))
theorem mv_RX11_369 : MV RX11 369 yX11_tunesOf cX11_tunesOf 3 (some .int) 0 := ⟨⟨(uw_t 1727 (by decide +kernel) (by decide +kernel)), wm_X11_tunesOf, ws_X11_tunesOf, wi_RX11, wc_X11_tunesOf⟩, wp_X11_tunesOf⟩
theorem wc_X11_walledBar : Cond.code yX11_walledBar cX11_walledBar 4 (some .int) ∈ UW := (uw_t 1734 (by decide +kernel) (by decide +kernel))
theorem wp_X11_walledBar : yX11_walledBar.cls ≠ "java/lang/invoke/MethodHandle" ∧ yX11_walledBar.cls ≠ "java/lang/invoke/VarHandle" ∧ (parseMethodDescriptor yX11_walledBar.desc).map (fun d => d.parameters.length) = some 1 := by decide +kernel
theorem wm_X11_walledBar : Cond.instanceMethod yX11_walledBar ∈ UW := (uw_t 1733 (by decide +kernel) (by decide +kernel))
theorem ws_X11_walledBar : Cond.selects yX11_walledBar.cls yX11_walledBar yX11_walledBar ∈ UW := (uw_s 103 (by decide +kernel) (by decide +kernel))
theorem mv_RX11_372 : MV RX11 372 yX11_walledBar cX11_walledBar 4 (some .int) 1 := ⟨⟨(uw_t 1731 (by decide +kernel) (by decide +kernel)), wm_X11_walledBar, ws_X11_walledBar, wi_RX11, wc_X11_walledBar⟩, wp_X11_walledBar⟩
theorem wc_X11_firstTune : Cond.code yX11_firstTune cX11_firstTune 5 (some .int) ∈ UW := (uw_t 1738 (by decide +kernel) (by decide +kernel))
theorem wp_X11_firstTune : yX11_firstTune.cls ≠ "java/lang/invoke/MethodHandle" ∧ yX11_firstTune.cls ≠ "java/lang/invoke/VarHandle" ∧ (parseMethodDescriptor yX11_firstTune.desc).map (fun d => d.parameters.length) = some 1 := by decide +kernel
theorem wm_X11_firstTune : Cond.instanceMethod yX11_firstTune ∈ UW := (uw_t 1737 (by decide +kernel) (by decide +kernel))
theorem ws_X11_firstTune : Cond.selects yX11_firstTune.cls yX11_firstTune yX11_firstTune ∈ UW := (uw_s 104 (by decide +kernel) (by decide +kernel))
theorem mv_RX11_375 : MV RX11 375 yX11_firstTune cX11_firstTune 5 (some .int) 1 := ⟨⟨(uw_t 1735 (by decide +kernel) (by decide +kernel)), wm_X11_firstTune, ws_X11_firstTune, wi_RX11, wc_X11_firstTune⟩, wp_X11_firstTune⟩
theorem wc_X11_sureTune : Cond.code yX11_sureTune cX11_sureTune 4 (some .int) ∈ UW := (uw_t 1742 (by decide +kernel) (by decide +kernel))
theorem wp_X11_sureTune : yX11_sureTune.cls ≠ "java/lang/invoke/MethodHandle" ∧ yX11_sureTune.cls ≠ "java/lang/invoke/VarHandle" ∧ (parseMethodDescriptor yX11_sureTune.desc).map (fun d => d.parameters.length) = some 1 := by decide +kernel
theorem wm_X11_sureTune : Cond.instanceMethod yX11_sureTune ∈ UW := (uw_t 1741 (by decide +kernel) (by decide +kernel))
theorem ws_X11_sureTune : Cond.selects yX11_sureTune.cls yX11_sureTune yX11_sureTune ∈ UW := (uw_s 105 (by decide +kernel) (by decide +kernel))
theorem mv_RX11_378 : MV RX11 378 yX11_sureTune cX11_sureTune 4 (some .int) 1 := ⟨⟨(uw_t 1739 (by decide +kernel) (by decide +kernel)), wm_X11_sureTune, ws_X11_sureTune, wi_RX11, wc_X11_sureTune⟩, wp_X11_sureTune⟩
theorem wc_X11_areNights : Cond.code yX11_areNights cX11_areNights 2 (some .boolean) ∈ UW := (uw_t 1750 (by decide +kernel) (by decide +kernel))
theorem wp_X11_areNights : yX11_areNights.cls ≠ "java/lang/invoke/MethodHandle" ∧ yX11_areNights.cls ≠ "java/lang/invoke/VarHandle" ∧ (parseMethodDescriptor yX11_areNights.desc).map (fun d => d.parameters.length) = some 1 := by decide +kernel
theorem wm_X11_areNights : Cond.instanceMethod yX11_areNights ∈ UW := (uw_t 1749 (by decide +kernel) (by decide +kernel))
theorem ws_X11_areNights : Cond.selects yX11_areNights.cls yX11_areNights yX11_areNights ∈ UW := (uw_s 106 (by decide +kernel) (by decide +kernel))
theorem mv_RX11_384 : MV RX11 384 yX11_areNights cX11_areNights 2 (some .boolean) 1 := ⟨⟨(uw_t 1747 (by decide +kernel) (by decide +kernel)), wm_X11_areNights, ws_X11_areNights, wi_RX11, wc_X11_areNights⟩, wp_X11_areNights⟩
theorem wc_X11_falls : Cond.code yX11_falls cX11_falls 2 none ∈ UW := (uw_t 1766 (by decide +kernel) (by decide +kernel))
theorem wp_X11_falls : yX11_falls.cls ≠ "java/lang/invoke/MethodHandle" ∧ yX11_falls.cls ≠ "java/lang/invoke/VarHandle" ∧ (parseMethodDescriptor yX11_falls.desc).map (fun d => d.parameters.length) = some 0 := by decide +kernel
theorem wm_X11_falls : Cond.instanceMethod yX11_falls ∈ UW := (uw_t 1765 (by decide +kernel) (by decide +kernel))
theorem ws_X11_falls : Cond.selects yX11_falls.cls yX11_falls yX11_falls ∈ UW := (uw_s 109 (by decide +kernel) (by decide +kernel))
theorem mv_RX11_423 : MV RX11 423 yX11_falls cX11_falls 2 none 0 := ⟨⟨(uw_t 1763 (by decide +kernel) (by decide +kernel)), wm_X11_falls, ws_X11_falls, wi_RX11, wc_X11_falls⟩, wp_X11_falls⟩
theorem wc_X11_nextBar : Cond.code yX11_nextBar cX11_nextBar 2 (some .int) ∈ UW := (uw_t 1782 (by decide +kernel) (by decide +kernel))
theorem wp_X11_nextBar : yX11_nextBar.cls ≠ "java/lang/invoke/MethodHandle" ∧ yX11_nextBar.cls ≠ "java/lang/invoke/VarHandle" ∧ (parseMethodDescriptor yX11_nextBar.desc).map (fun d => d.parameters.length) = some 0 := by decide +kernel
theorem wm_X11_nextBar : Cond.instanceMethod yX11_nextBar ∈ UW := (uw_t 1781 (by decide +kernel) (by decide +kernel))
theorem ws_X11_nextBar : Cond.selects yX11_nextBar.cls yX11_nextBar yX11_nextBar ∈ UW := (uw_s 113 (by decide +kernel) (by decide +kernel))
theorem mv_RX11_426 : MV RX11 426 yX11_nextBar cX11_nextBar 2 (some .int) 0 := ⟨⟨(uw_t 1779 (by decide +kernel) (by decide +kernel)), wm_X11_nextBar, ws_X11_nextBar, wi_RX11, wc_X11_nextBar⟩, wp_X11_nextBar⟩
theorem wc_X11_lastSinger : Cond.code yX11_lastSinger cX11_lastSinger 2 (some .int) ∈ UW := (uw_t 1786 (by decide +kernel) (by decide +kernel))
theorem wp_X11_lastSinger : yX11_lastSinger.cls ≠ "java/lang/invoke/MethodHandle" ∧ yX11_lastSinger.cls ≠ "java/lang/invoke/VarHandle" ∧ (parseMethodDescriptor yX11_lastSinger.desc).map (fun d => d.parameters.length) = some 0 := by decide +kernel
theorem wm_X11_lastSinger : Cond.instanceMethod yX11_lastSinger ∈ UW := (uw_t 1785 (by decide +kernel) (by decide +kernel))
theorem ws_X11_lastSinger : Cond.selects yX11_lastSinger.cls yX11_lastSinger yX11_lastSinger ∈ UW := (uw_s 114 (by decide +kernel) (by decide +kernel))
theorem mv_RX11_429 : MV RX11 429 yX11_lastSinger cX11_lastSinger 2 (some .int) 0 := ⟨⟨(uw_t 1783 (by decide +kernel) (by decide +kernel)), wm_X11_lastSinger, ws_X11_lastSinger, wi_RX11, wc_X11_lastSinger⟩, wp_X11_lastSinger⟩
theorem wc_X11_wakesFrom : Cond.code yX11_wakesFrom cX11_wakesFrom 2 none ∈ UW := (uw_t 1794 (by decide +kernel) (by decide +kernel))
theorem wp_X11_wakesFrom : yX11_wakesFrom.cls ≠ "java/lang/invoke/MethodHandle" ∧ yX11_wakesFrom.cls ≠ "java/lang/invoke/VarHandle" ∧ (parseMethodDescriptor yX11_wakesFrom.desc).map (fun d => d.parameters.length) = some 1 := by decide +kernel
theorem wm_X11_wakesFrom : Cond.instanceMethod yX11_wakesFrom ∈ UW := (uw_t 1793 (by decide +kernel) (by decide +kernel))
theorem ws_X11_wakesFrom : Cond.selects yX11_wakesFrom.cls yX11_wakesFrom yX11_wakesFrom ∈ UW := (uw_s 116 (by decide +kernel) (by decide +kernel))
theorem mv_RX11_432 : MV RX11 432 yX11_wakesFrom cX11_wakesFrom 2 none 1 := ⟨⟨(uw_t 1791 (by decide +kernel) (by decide +kernel)), wm_X11_wakesFrom, ws_X11_wakesFrom, wi_RX11, wc_X11_wakesFrom⟩, wp_X11_wakesFrom⟩
theorem wc_X11_sings : Cond.code yX11_sings cX11_sings 3 (some .boolean) ∈ UW := (uw_t 1778 (by decide +kernel) (by decide +kernel))
theorem wp_X11_sings : yX11_sings.cls ≠ "java/lang/invoke/MethodHandle" ∧ yX11_sings.cls ≠ "java/lang/invoke/VarHandle" ∧ (parseMethodDescriptor yX11_sings.desc).map (fun d => d.parameters.length) = some 1 := by decide +kernel
theorem wm_X11_sings : Cond.instanceMethod yX11_sings ∈ UW := (uw_t 1777 (by decide +kernel) (by decide +kernel))
theorem ws_X11_sings : Cond.selects yX11_sings.cls yX11_sings yX11_sings ∈ UW := (uw_s 112 (by decide +kernel) (by decide +kernel))
theorem mv_RX11_435 : MV RX11 435 yX11_sings cX11_sings 3 (some .boolean) 1 := ⟨⟨(uw_t 1775 (by decide +kernel) (by decide +kernel)), wm_X11_sings, ws_X11_sings, wi_RX11, wc_X11_sings⟩, wp_X11_sings⟩
theorem wc_X11_skips : Cond.code yX11_skips cX11_skips 2 (some .boolean) ∈ UW := (uw_t 1790 (by decide +kernel) (by decide +kernel))
theorem wp_X11_skips : yX11_skips.cls ≠ "java/lang/invoke/MethodHandle" ∧ yX11_skips.cls ≠ "java/lang/invoke/VarHandle" ∧ (parseMethodDescriptor yX11_skips.desc).map (fun d => d.parameters.length) = some 0 := by decide +kernel
theorem wm_X11_skips : Cond.instanceMethod yX11_skips ∈ UW := (uw_t 1789 (by decide +kernel) (by decide +kernel))
theorem ws_X11_skips : Cond.selects yX11_skips.cls yX11_skips yX11_skips ∈ UW := (uw_s 115 (by decide +kernel) (by decide +kernel))
theorem mv_RX11_438 : MV RX11 438 yX11_skips cX11_skips 2 (some .boolean) 0 := ⟨⟨(uw_t 1787 (by decide +kernel) (by decide +kernel)), wm_X11_skips, ws_X11_skips, wi_RX11, wc_X11_skips⟩, wp_X11_skips⟩
theorem wc_X11_nightGoes : Cond.code yX11_nightGoes cX11_nightGoes 3 (some .boolean) ∈ UW := (uw_t 1798 (by decide +kernel) (by decide +kernel))
theorem wp_X11_nightGoes : yX11_nightGoes.cls ≠ "java/lang/invoke/MethodHandle" ∧ yX11_nightGoes.cls ≠ "java/lang/invoke/VarHandle" ∧ (parseMethodDescriptor yX11_nightGoes.desc).map (fun d => d.parameters.length) = some 0 := by decide +kernel
theorem wm_X11_nightGoes : Cond.instanceMethod yX11_nightGoes ∈ UW := (uw_t 1797 (by decide +kernel) (by decide +kernel))
theorem ws_X11_nightGoes : Cond.selects yX11_nightGoes.cls yX11_nightGoes yX11_nightGoes ∈ UW := (uw_s 117 (by decide +kernel) (by decide +kernel))
theorem mv_RX11_441 : MV RX11 441 yX11_nightGoes cX11_nightGoes 3 (some .boolean) 0 := ⟨⟨(uw_t 1795 (by decide +kernel) (by decide +kernel)), wm_X11_nightGoes, ws_X11_nightGoes, wi_RX11, wc_X11_nightGoes⟩, wp_X11_nightGoes⟩
theorem wc_X11_does : Cond.code yX11_does cX11_does 3 (some .boolean) ∈ UW := (uw_t 1774 (by decide +kernel) (by decide +kernel))
theorem wp_X11_does : yX11_does.cls ≠ "java/lang/invoke/MethodHandle" ∧ yX11_does.cls ≠ "java/lang/invoke/VarHandle" ∧ (parseMethodDescriptor yX11_does.desc).map (fun d => d.parameters.length) = some 2 := by decide +kernel
theorem wm_X11_does : Cond.instanceMethod yX11_does ∈ UW := (uw_t 1773 (by decide +kernel) (by decide +kernel))
theorem ws_X11_does : Cond.selects yX11_does.cls yX11_does yX11_does ∈ UW := (uw_s 111 (by decide +kernel) (by decide +kernel))
theorem mv_RX11_444 : MV RX11 444 yX11_does cX11_does 3 (some .boolean) 2 := ⟨⟨(uw_t 1771 (by decide +kernel) (by decide +kernel)), wm_X11_does, ws_X11_does, wi_RX11, wc_X11_does⟩, wp_X11_does⟩
theorem wc_X11_begins : Cond.code yX11_begins cX11_begins 2 none ∈ UW := (uw_t 1762 (by decide +kernel) (by decide +kernel))
theorem wp_X11_begins : yX11_begins.cls ≠ "java/lang/invoke/MethodHandle" ∧ yX11_begins.cls ≠ "java/lang/invoke/VarHandle" ∧ (parseMethodDescriptor yX11_begins.desc).map (fun d => d.parameters.length) = some 0 := by decide +kernel
theorem wm_X11_begins : Cond.instanceMethod yX11_begins ∈ UW := (uw_t 1761 (by decide +kernel) (by decide +kernel))
theorem ws_X11_begins : Cond.selects yX11_begins.cls yX11_begins yX11_begins ∈ UW := (uw_s 108 (by decide +kernel) (by decide +kernel))
theorem mv_RX11_447 : MV RX11 447 yX11_begins cX11_begins 2 none 0 := ⟨⟨(uw_t 1759 (by decide +kernel) (by decide +kernel)), wm_X11_begins, ws_X11_begins, wi_RX11, wc_X11_begins⟩, wp_X11_begins⟩
theorem wc_X11_doesTold : Cond.code yX11_doesTold cX11_doesTold 2 (some .boolean) ∈ UW := (uw_t 1770 (by decide +kernel) (by decide +kernel))
theorem wp_X11_doesTold : yX11_doesTold.cls ≠ "java/lang/invoke/MethodHandle" ∧ yX11_doesTold.cls ≠ "java/lang/invoke/VarHandle" ∧ (parseMethodDescriptor yX11_doesTold.desc).map (fun d => d.parameters.length) = some 1 := by decide +kernel
theorem wm_X11_doesTold : Cond.instanceMethod yX11_doesTold ∈ UW := (uw_t 1769 (by decide +kernel) (by decide +kernel))
theorem ws_X11_doesTold : Cond.selects yX11_doesTold.cls yX11_doesTold yX11_doesTold ∈ UW := (uw_s 110 (by decide +kernel) (by decide +kernel))
theorem mv_RX11_450 : MV RX11 450 yX11_doesTold cX11_doesTold 2 (some .boolean) 1 := ⟨⟨(uw_t 1767 (by decide +kernel) (by decide +kernel)), wm_X11_doesTold, ws_X11_doesTold, wi_RX11, wc_X11_doesTold⟩, wp_X11_doesTold⟩
theorem wc_X11_runs : Cond.code yX11_runs cX11_runs 2 none ∈ UW := (uw_t 1758 (by decide +kernel) (by decide +kernel))
theorem wp_X11_runs : yX11_runs.cls ≠ "java/lang/invoke/MethodHandle" ∧ yX11_runs.cls ≠ "java/lang/invoke/VarHandle" ∧ (parseMethodDescriptor yX11_runs.desc).map (fun d => d.parameters.length) = some 1 := by decide +kernel
theorem wm_X11_runs : Cond.instanceMethod yX11_runs ∈ UW := (uw_t 1757 (by decide +kernel) (by decide +kernel))
theorem ws_X11_runs : Cond.selects yX11_runs.cls yX11_runs yX11_runs ∈ UW := (uw_s 107 (by decide +kernel) (by decide +kernel))
theorem mv_RX11_453 : MV RX11 453 yX11_runs cX11_runs 2 none 1 := ⟨⟨(uw_t 1755 (by decide +kernel) (by decide +kernel)), wm_X11_runs, ws_X11_runs, wi_RX11, wc_X11_runs⟩, wp_X11_runs⟩
theorem wc_X11_nowOf : Cond.code yX11_nowOf cX11_nowOf 2 (some .int) ∈ UW := (uw_t 1806 (by decide +kernel) (by decide +kernel))
theorem wp_X11_nowOf : yX11_nowOf.cls ≠ "java/lang/invoke/MethodHandle" ∧ yX11_nowOf.cls ≠ "java/lang/invoke/VarHandle" ∧ (parseMethodDescriptor yX11_nowOf.desc).map (fun d => d.parameters.length) = some 1 := by decide +kernel
theorem wm_X11_nowOf : Cond.instanceMethod yX11_nowOf ∈ UW := (uw_t 1805 (by decide +kernel) (by decide +kernel))
theorem ws_X11_nowOf : Cond.selects yX11_nowOf.cls yX11_nowOf yX11_nowOf ∈ UW := (uw_s 118 (by decide +kernel) (by decide +kernel))
theorem mv_RX11_456 : MV RX11 456 yX11_nowOf cX11_nowOf 2 (some .int) 1 := ⟨⟨(uw_t 1803 (by decide +kernel) (by decide +kernel)), wm_X11_nowOf, ws_X11_nowOf, wi_RX11, wc_X11_nowOf⟩, wp_X11_nowOf⟩
theorem wc_X11_areMornings : Cond.code yX11_areMornings cX11_areMornings 2 (some .boolean) ∈ UW := (uw_t 1818 (by decide +kernel) (by decide +kernel))
theorem wp_X11_areMornings : yX11_areMornings.cls ≠ "java/lang/invoke/MethodHandle" ∧ yX11_areMornings.cls ≠ "java/lang/invoke/VarHandle" ∧ (parseMethodDescriptor yX11_areMornings.desc).map (fun d => d.parameters.length) = some 1 := by decide +kernel
theorem wm_X11_areMornings : Cond.instanceMethod yX11_areMornings ∈ UW := (uw_t 1817 (by decide +kernel) (by decide +kernel))
theorem ws_X11_areMornings : Cond.selects yX11_areMornings.cls yX11_areMornings yX11_areMornings ∈ UW := (uw_s 119 (by decide +kernel) (by decide +kernel))
theorem mv_RX11_462 : MV RX11 462 yX11_areMornings cX11_areMornings 2 (some .boolean) 1 := ⟨⟨(uw_t 1815 (by decide +kernel) (by decide +kernel)), wm_X11_areMornings, ws_X11_areMornings, wi_RX11, wc_X11_areMornings⟩, wp_X11_areMornings⟩
theorem wc_X11_isSo : Cond.code yX11_isSo cX11_isSo 4 (some .boolean) ∈ UW := (uw_t 1834 (by decide +kernel) (by decide +kernel))
theorem wp_X11_isSo : yX11_isSo.cls ≠ "java/lang/invoke/MethodHandle" ∧ yX11_isSo.cls ≠ "java/lang/invoke/VarHandle" ∧ (parseMethodDescriptor yX11_isSo.desc).map (fun d => d.parameters.length) = some 1 := by decide +kernel
theorem wm_X11_isSo : Cond.instanceMethod yX11_isSo ∈ UW := (uw_t 1833 (by decide +kernel) (by decide +kernel))
theorem ws_X11_isSo : Cond.selects yX11_isSo.cls yX11_isSo yX11_isSo ∈ UW := (uw_s 122 (by decide +kernel) (by decide +kernel))
theorem mv_RX11_465 : MV RX11 465 yX11_isSo cX11_isSo 4 (some .boolean) 1 := ⟨⟨(uw_t 1831 (by decide +kernel) (by decide +kernel)), wm_X11_isSo, ws_X11_isSo, wi_RX11, wc_X11_isSo⟩, wp_X11_isSo⟩
theorem wc_X11_areDreams : Cond.code yX11_areDreams cX11_areDreams 3 (some .boolean) ∈ UW := (uw_t 1826 (by decide +kernel) (by decide +kernel))
theorem wp_X11_areDreams : yX11_areDreams.cls ≠ "java/lang/invoke/MethodHandle" ∧ yX11_areDreams.cls ≠ "java/lang/invoke/VarHandle" ∧ (parseMethodDescriptor yX11_areDreams.desc).map (fun d => d.parameters.length) = some 0 := by decide +kernel
theorem wm_X11_areDreams : Cond.instanceMethod yX11_areDreams ∈ UW := (uw_t 1825 (by decide +kernel) (by decide +kernel))
theorem ws_X11_areDreams : Cond.selects yX11_areDreams.cls yX11_areDreams yX11_areDreams ∈ UW := (uw_s 120 (by decide +kernel) (by decide +kernel))
theorem mv_RX11_468 : MV RX11 468 yX11_areDreams cX11_areDreams 3 (some .boolean) 0 := ⟨⟨(uw_t 1823 (by decide +kernel) (by decide +kernel)), wm_X11_areDreams, ws_X11_areDreams, wi_RX11, wc_X11_areDreams⟩, wp_X11_areDreams⟩
theorem wc_X11_manyFit : Cond.code yX11_manyFit cX11_manyFit 3 (some .int) ∈ UW := (uw_t 1830 (by decide +kernel) (by decide +kernel))
theorem wp_X11_manyFit : yX11_manyFit.cls ≠ "java/lang/invoke/MethodHandle" ∧ yX11_manyFit.cls ≠ "java/lang/invoke/VarHandle" ∧ (parseMethodDescriptor yX11_manyFit.desc).map (fun d => d.parameters.length) = some 0 := by decide +kernel
theorem wm_X11_manyFit : Cond.instanceMethod yX11_manyFit ∈ UW := (uw_t 1829 (by decide +kernel) (by decide +kernel))
theorem ws_X11_manyFit : Cond.selects yX11_manyFit.cls yX11_manyFit yX11_manyFit ∈ UW := (uw_s 121 (by decide +kernel) (by decide +kernel))
theorem mv_RX11_471 : MV RX11 471 yX11_manyFit cX11_manyFit 3 (some .int) 0 := ⟨⟨(uw_t 1827 (by decide +kernel) (by decide +kernel)), wm_X11_manyFit, ws_X11_manyFit, wi_RX11, wc_X11_manyFit⟩, wp_X11_manyFit⟩
theorem wc_X11_askOf : Cond.code yX11_askOf cX11_askOf 7 (some .int) ∈ UW := (uw_t 1838 (by decide +kernel) (by decide +kernel))
theorem wp_X11_askOf : yX11_askOf.cls ≠ "java/lang/invoke/MethodHandle" ∧ yX11_askOf.cls ≠ "java/lang/invoke/VarHandle" ∧ (parseMethodDescriptor yX11_askOf.desc).map (fun d => d.parameters.length) = some 1 := by decide +kernel
theorem wm_X11_askOf : Cond.instanceMethod yX11_askOf ∈ UW := (uw_t 1837 (by decide +kernel) (by decide +kernel))
theorem ws_X11_askOf : Cond.selects yX11_askOf.cls yX11_askOf yX11_askOf ∈ UW := (uw_s 123 (by decide +kernel) (by decide +kernel))
theorem mv_RX11_474 : MV RX11 474 yX11_askOf cX11_askOf 7 (some .int) 1 := ⟨⟨(uw_t 1835 (by decide +kernel) (by decide +kernel)), wm_X11_askOf, ws_X11_askOf, wi_RX11, wc_X11_askOf⟩, wp_X11_askOf⟩
theorem wc_X11_below : Cond.code yX11_below cX11_below 2 (some .int) ∈ UW := (uw_t 1854 (by decide +kernel) (by decide +kernel))
theorem wp_X11_below : yX11_below.cls ≠ "java/lang/invoke/MethodHandle" ∧ yX11_below.cls ≠ "java/lang/invoke/VarHandle" ∧ (parseMethodDescriptor yX11_below.desc).map (fun d => d.parameters.length) = some 1 := by decide +kernel
theorem wm_X11_below : Cond.instanceMethod yX11_below ∈ UW := (uw_t 1853 (by decide +kernel) (by decide +kernel))
theorem ws_X11_below : Cond.selects yX11_below.cls yX11_below yX11_below ∈ UW := (uw_s 125 (by decide +kernel) (by decide +kernel))
theorem mv_RX11_481 : MV RX11 481 yX11_below cX11_below 2 (some .int) 1 := ⟨⟨(uw_t 1851 (by decide +kernel) (by decide +kernel)), wm_X11_below, ws_X11_below, wi_RX11, wc_X11_below⟩, wp_X11_below⟩
theorem wc_X11_draws : Cond.code yX11_draws cX11_draws 3 none ∈ UW := (uw_t 1850 (by decide +kernel) (by decide +kernel))
theorem wp_X11_draws : yX11_draws.cls ≠ "java/lang/invoke/MethodHandle" ∧ yX11_draws.cls ≠ "java/lang/invoke/VarHandle" ∧ (parseMethodDescriptor yX11_draws.desc).map (fun d => d.parameters.length) = some 0 := by decide +kernel
theorem wm_X11_draws : Cond.instanceMethod yX11_draws ∈ UW := (uw_t 1849 (by decide +kernel) (by decide +kernel))
theorem ws_X11_draws : Cond.selects yX11_draws.cls yX11_draws yX11_draws ∈ UW := (uw_s 124 (by decide +kernel) (by decide +kernel))
theorem mv_RX11_484 : MV RX11 484 yX11_draws cX11_draws 3 none 0 := ⟨⟨(uw_t 1847 (by decide +kernel) (by decide +kernel)), wm_X11_draws, ws_X11_draws, wi_RX11, wc_X11_draws⟩, wp_X11_draws⟩
theorem wc_X11_byteAt : Cond.code yX11_byteAt cX11_byteAt 2 (some .int) ∈ UW := (uw_t 1365 (by decide +kernel) (by decide +kernel))
theorem wp_X11_byteAt : yX11_byteAt.cls ≠ "java/lang/invoke/MethodHandle" ∧ yX11_byteAt.cls ≠ "java/lang/invoke/VarHandle" ∧ (parseMethodDescriptor yX11_byteAt.desc).map (fun d => d.parameters.length) = some 1 := by decide +kernel
theorem wm_X11_byteAt : Cond.instanceMethod yX11_byteAt ∈ UW := (uw_t 1364 (by decide +kernel) (by decide +kernel))
theorem ws_X11_byteAt : Cond.selects yX11_byteAt.cls yX11_byteAt yX11_byteAt ∈ UW := (uw_s 42 (by decide +kernel) (by decide +kernel))
theorem mv_RX11_85 : MV RX11 85 yX11_byteAt cX11_byteAt 2 (some .int) 1 := ⟨⟨(uw_t 1362 (by decide +kernel) (by decide +kernel)), wm_X11_byteAt, ws_X11_byteAt, wi_RX11, wc_X11_byteAt⟩, wp_X11_byteAt⟩
theorem mv_RX1_61 : MV RX1 61 yX1_hasFloor cX1_hasFloor 2 (some .boolean) 1 := ⟨⟨(uw_t 645 (by decide +kernel) (by decide +kernel)), wm_X1_hasFloor, ws_X1_hasFloor, wi_RX1, wc_X1_hasFloor⟩, wp_X1_hasFloor⟩
theorem mv_RX1_65 : MV RX1 65 yX1_hasBar cX1_hasBar 2 (some .boolean) 1 := ⟨⟨(uw_t 649 (by decide +kernel) (by decide +kernel)), wm_X1_hasBar, ws_X1_hasBar, wi_RX1, wc_X1_hasBar⟩, wp_X1_hasBar⟩
theorem mv_RX1_68 : MV RX1 68 yX1_hasSinger cX1_hasSinger 2 (some .boolean) 1 := ⟨⟨(uw_t 653 (by decide +kernel) (by decide +kernel)), wm_X1_hasSinger, ws_X1_hasSinger, wi_RX1, wc_X1_hasSinger⟩, wp_X1_hasSinger⟩
theorem mv_RX1_71 : MV RX1 71 yX1_sounds cX1_sounds 2 (some .boolean) 1 := ⟨⟨(uw_t 692 (by decide +kernel) (by decide +kernel)), wm_X1_sounds, ws_X1_sounds, wi_RX1, wc_X1_sounds⟩, wp_X1_sounds⟩
theorem wc_X1_reaches : Cond.code yX1_reaches cX1_reaches 4 (some .boolean) ∈ UW := (uw_t 717 (by decide +kernel) (by decide +kernel))
theorem wp_X1_reaches : yX1_reaches.cls ≠ "java/lang/invoke/MethodHandle" ∧ yX1_reaches.cls ≠ "java/lang/invoke/VarHandle" ∧ (parseMethodDescriptor yX1_reaches.desc).map (fun d => d.parameters.length) = some 3 := by decide +kernel
theorem wm_X1_reaches : Cond.instanceMethod yX1_reaches ∈ UW := (uw_t 715 (by decide +kernel) (by decide +kernel))
theorem ws_X1_reaches : Cond.selects yX1_reaches.cls yX1_reaches yX1_reaches ∈ UW := (uw_t 716 (by decide +kernel) (by decide +kernel))
theorem mv_RX1_74 : MV RX1 74 yX1_reaches cX1_reaches 4 (some .boolean) 3 := ⟨⟨(uw_t 825 (by decide +kernel) (by decide +kernel)), wm_X1_reaches, ws_X1_reaches, wi_RX1, wc_X1_reaches⟩, wp_X1_reaches⟩
theorem mv_RX1_78 : MV RX1 78 yX1_everybody cX1_everybody 1 (some .int) 0 := ⟨⟨(uw_t 820 (by decide +kernel) (by decide +kernel)), wm_X1_everybody, ws_X1_everybody, wi_RX1, wc_X1_everybody⟩, wp_X1_everybody⟩
theorem mv_RX1_82 : MV RX1 82 yX1_notesOf cX1_notesOf 5 (some .int) 1 := ⟨⟨(uw_t 821 (by decide +kernel) (by decide +kernel)), wm_X1_notesOf, ws_X1_notesOf, wi_RX1, wc_X1_notesOf⟩, wp_X1_notesOf⟩
theorem mv_RX1_90 : MV RX1 90 yX1_from cX1_from 2 (some .int) 1 := ⟨⟨(uw_t 1060 (by decide +kernel) (by decide +kernel)), wm_X1_from, ws_X1_from, wi_RX1, wc_X1_from⟩, wp_X1_from⟩
theorem mv_RX1_93 : MV RX1 93 yX1_peopleOf cX1_peopleOf 4 (some .int) 1 := ⟨⟨(uw_t 1061 (by decide +kernel) (by decide +kernel)), wm_X1_peopleOf, ws_X1_peopleOf, wi_RX1, wc_X1_peopleOf⟩, wp_X1_peopleOf⟩
theorem mv_RX1_96 : MV RX1 96 yX1_roofOf cX1_roofOf 2 (some .int) 1 := ⟨⟨(uw_t 1055 (by decide +kernel) (by decide +kernel)), wm_X1_roofOf, ws_X1_roofOf, wi_RX1, wc_X1_roofOf⟩, wp_X1_roofOf⟩
theorem mv_RX1_99 : MV RX1 99 yX1_notesOn cX1_notesOn 4 (some .int) 1 := ⟨⟨(uw_t 1161 (by decide +kernel) (by decide +kernel)), wm_X1_notesOn, ws_X1_notesOn, wi_RX1, wc_X1_notesOn⟩, wp_X1_notesOn⟩
theorem mv_RX2_19 : MV RX2 19 yX5_coldDreams cX5_coldDreams 4 (some .int) 1 := ⟨⟨(uw_t 967 (by decide +kernel) (by decide +kernel)), wm_X5_coldDreams, ws_X5_coldDreams, wi_RX5, wc_X5_coldDreams⟩, wp_X5_coldDreams⟩
theorem mv_RX2_25 : MV RX2 25 yX1_hasSinger cX1_hasSinger 2 (some .boolean) 1 := ⟨⟨(uw_t 971 (by decide +kernel) (by decide +kernel)), wm_X1_hasSinger, ws_X1_hasSinger, wi_RX1, wc_X1_hasSinger⟩, wp_X1_hasSinger⟩
theorem wc_X2_leftAtWorst : Cond.code yX2_leftAtWorst cX2_leftAtWorst 7 (some .int) ∈ UW := (uw_t 984 (by decide +kernel) (by decide +kernel))
theorem wp_X2_leftAtWorst : yX2_leftAtWorst.cls ≠ "java/lang/invoke/MethodHandle" ∧ yX2_leftAtWorst.cls ≠ "java/lang/invoke/VarHandle" ∧ (parseMethodDescriptor yX2_leftAtWorst.desc).map (fun d => d.parameters.length) = some 1 := by decide +kernel
theorem wm_X2_leftAtWorst : Cond.instanceMethod yX2_leftAtWorst ∈ UW := (uw_t 983 (by decide +kernel) (by decide +kernel))
theorem ws_X2_leftAtWorst : Cond.selects yX2_leftAtWorst.cls yX2_leftAtWorst yX2_leftAtWorst ∈ UW := (uw_s 35 (by decide +kernel) (by decide +kernel))
theorem mv_RX2_53 : MV RX2 53 yX2_leftAtWorst cX2_leftAtWorst 7 (some .int) 1 := ⟨⟨(uw_t 981 (by decide +kernel) (by decide +kernel)), wm_X2_leftAtWorst, ws_X2_leftAtWorst, wi_RX2, wc_X2_leftAtWorst⟩, wp_X2_leftAtWorst⟩
theorem wc_X3_does : Cond.code yX3_does cX3_does 3 (some .boolean) ∈ UW := (uw_t 700 (by decide +kernel) (by decide +kernel))
theorem wp_X3_does : yX3_does.cls ≠ "java/lang/invoke/MethodHandle" ∧ yX3_does.cls ≠ "java/lang/invoke/VarHandle" ∧ (parseMethodDescriptor yX3_does.desc).map (fun d => d.parameters.length) = some 2 := by decide +kernel
theorem wm_X3_does : Cond.instanceMethod yX3_does ∈ UW := (uw_t 699 (by decide +kernel) (by decide +kernel))
theorem ws_X3_does : Cond.selects yX3_does.cls yX3_does yX3_does ∈ UW := (uw_s 12 (by decide +kernel) (by decide +kernel))
theorem mv_RX3_109 : MV RX3 109 yX3_does cX3_does 3 (some .boolean) 2 := ⟨⟨(uw_t 697 (by decide +kernel) (by decide +kernel)), wm_X3_does, ws_X3_does, wi_RX3, wc_X3_does⟩, wp_X3_does⟩
theorem wc_X3_drawDeed : Cond.code yX3_drawDeed cX3_drawDeed 3 none ∈ UW := (uw_t 997 (by decide +kernel) (by decide +kernel))
theorem wp_X3_drawDeed : yX3_drawDeed.cls ≠ "java/lang/invoke/MethodHandle" ∧ yX3_drawDeed.cls ≠ "java/lang/invoke/VarHandle" ∧ (parseMethodDescriptor yX3_drawDeed.desc).map (fun d => d.parameters.length) = some 0 := by decide +kernel
theorem wm_X3_drawDeed : Cond.instanceMethod yX3_drawDeed ∈ UW := (uw_t 996 (by decide +kernel) (by decide +kernel))
theorem ws_X3_drawDeed : Cond.selects yX3_drawDeed.cls yX3_drawDeed yX3_drawDeed ∈ UW := (uw_s 36 (by decide +kernel) (by decide +kernel))
theorem mv_RX3_113 : MV RX3 113 yX3_drawDeed cX3_drawDeed 3 none 0 := ⟨⟨(uw_t 994 (by decide +kernel) (by decide +kernel)), wm_X3_drawDeed, ws_X3_drawDeed, wi_RX3, wc_X3_drawDeed⟩, wp_X3_drawDeed⟩
theorem wc_X3_below : Cond.code yX3_below cX3_below 2 (some .int) ∈ UW := (uw_t 1001 (by decide +kernel) (by decide +kernel))
theorem wp_X3_below : yX3_below.cls ≠ "java/lang/invoke/MethodHandle" ∧ yX3_below.cls ≠ "java/lang/invoke/VarHandle" ∧ (parseMethodDescriptor yX3_below.desc).map (fun d => d.parameters.length) = some 1 := by decide +kernel
theorem wm_X3_below : Cond.instanceMethod yX3_below ∈ UW := (uw_t 1000 (by decide +kernel) (by decide +kernel))
theorem ws_X3_below : Cond.selects yX3_below.cls yX3_below yX3_below ∈ UW := (uw_s 37 (by decide +kernel) (by decide +kernel))
theorem mv_RX3_116 : MV RX3 116 yX3_below cX3_below 2 (some .int) 1 := ⟨⟨(uw_t 998 (by decide +kernel) (by decide +kernel)), wm_X3_below, ws_X3_below, wi_RX3, wc_X3_below⟩, wp_X3_below⟩
theorem wc_X3_may : Cond.code yX3_may cX3_may 3 (some .boolean) ∈ UW := (uw_t 704 (by decide +kernel) (by decide +kernel))
theorem wp_X3_may : yX3_may.cls ≠ "java/lang/invoke/MethodHandle" ∧ yX3_may.cls ≠ "java/lang/invoke/VarHandle" ∧ (parseMethodDescriptor yX3_may.desc).map (fun d => d.parameters.length) = some 2 := by decide +kernel
theorem wm_X3_may : Cond.instanceMethod yX3_may ∈ UW := (uw_t 703 (by decide +kernel) (by decide +kernel))
theorem ws_X3_may : Cond.selects yX3_may.cls yX3_may yX3_may ∈ UW := (uw_s 13 (by decide +kernel) (by decide +kernel))
theorem mv_RX3_123 : MV RX3 123 yX3_may cX3_may 3 (some .boolean) 2 := ⟨⟨(uw_t 701 (by decide +kernel) (by decide +kernel)), wm_X3_may, ws_X3_may, wi_RX3, wc_X3_may⟩, wp_X3_may⟩
theorem wc_X3_singNext : Cond.code yX3_singNext cX3_singNext 2 none ∈ UW := (uw_t 713 (by decide +kernel) (by decide +kernel))
theorem wp_X3_singNext : yX3_singNext.cls ≠ "java/lang/invoke/MethodHandle" ∧ yX3_singNext.cls ≠ "java/lang/invoke/VarHandle" ∧ (parseMethodDescriptor yX3_singNext.desc).map (fun d => d.parameters.length) = some 1 := by decide +kernel
theorem wm_X3_singNext : Cond.instanceMethod yX3_singNext ∈ UW := (uw_t 712 (by decide +kernel) (by decide +kernel))
theorem ws_X3_singNext : Cond.selects yX3_singNext.cls yX3_singNext yX3_singNext ∈ UW := (uw_s 15 (by decide +kernel) (by decide +kernel))
theorem mv_RX3_126 : MV RX3 126 yX3_singNext cX3_singNext 2 none 1 := ⟨⟨(uw_t 710 (by decide +kernel) (by decide +kernel)), wm_X3_singNext, ws_X3_singNext, wi_RX3, wc_X3_singNext⟩, wp_X3_singNext⟩
theorem mv_RX3_133 : MV RX3 133 yX1_from cX1_from 2 (some .int) 1 := ⟨⟨(uw_t 722 (by decide +kernel) (by decide +kernel)), wm_X1_from, ws_X1_from, wi_RX1, wc_X1_from⟩, wp_X1_from⟩
theorem wc_X3_goOn : Cond.code yX3_goOn cX3_goOn 2 none ∈ UW := (uw_t 721 (by decide +kernel) (by decide +kernel))
theorem wp_X3_goOn : yX3_goOn.cls ≠ "java/lang/invoke/MethodHandle" ∧ yX3_goOn.cls ≠ "java/lang/invoke/VarHandle" ∧ (parseMethodDescriptor yX3_goOn.desc).map (fun d => d.parameters.length) = some 1 := by decide +kernel
theorem wm_X3_goOn : Cond.instanceMethod yX3_goOn ∈ UW := (uw_t 720 (by decide +kernel) (by decide +kernel))
theorem ws_X3_goOn : Cond.selects yX3_goOn.cls yX3_goOn yX3_goOn ∈ UW := (uw_s 16 (by decide +kernel) (by decide +kernel))
theorem mv_RX3_136 : MV RX3 136 yX3_goOn cX3_goOn 2 none 1 := ⟨⟨(uw_t 718 (by decide +kernel) (by decide +kernel)), wm_X3_goOn, ws_X3_goOn, wi_RX3, wc_X3_goOn⟩, wp_X3_goOn⟩
theorem wc_X3_endNight : Cond.code yX3_endNight cX3_endNight 2 none ∈ UW := (uw_t 729 (by decide +kernel) (by decide +kernel))
theorem wp_X3_endNight : yX3_endNight.cls ≠ "java/lang/invoke/MethodHandle" ∧ yX3_endNight.cls ≠ "java/lang/invoke/VarHandle" ∧ (parseMethodDescriptor yX3_endNight.desc).map (fun d => d.parameters.length) = some 0 := by decide +kernel
theorem wm_X3_endNight : Cond.instanceMethod yX3_endNight ∈ UW := (uw_t 728 (by decide +kernel) (by decide +kernel))
theorem ws_X3_endNight : Cond.selects yX3_endNight.cls yX3_endNight yX3_endNight ∈ UW := (uw_s 17 (by decide +kernel) (by decide +kernel))
theorem mv_RX3_139 : MV RX3 139 yX3_endNight cX3_endNight 2 none 0 := ⟨⟨(uw_t 726 (by decide +kernel) (by decide +kernel)), wm_X3_endNight, ws_X3_endNight, wi_RX3, wc_X3_endNight⟩, wp_X3_endNight⟩
theorem mv_RX3_142 : MV RX3 142 yX1_hasSinger cX1_hasSinger 2 (some .boolean) 1 := ⟨⟨(uw_t 705 (by decide +kernel) (by decide +kernel)), wm_X1_hasSinger, ws_X1_hasSinger, wi_RX1, wc_X1_hasSinger⟩, wp_X1_hasSinger⟩
theorem wc_X3_sangAhead : Cond.code yX3_sangAhead cX3_sangAhead 1 (some .int) ∈ UW := (uw_t 709 (by decide +kernel) (by decide +kernel))
theorem wp_X3_sangAhead : yX3_sangAhead.cls ≠ "java/lang/invoke/MethodHandle" ∧ yX3_sangAhead.cls ≠ "java/lang/invoke/VarHandle" ∧ (parseMethodDescriptor yX3_sangAhead.desc).map (fun d => d.parameters.length) = some 0 := by decide +kernel
theorem wm_X3_sangAhead : Cond.instanceMethod yX3_sangAhead ∈ UW := (uw_t 708 (by decide +kernel) (by decide +kernel))
theorem ws_X3_sangAhead : Cond.selects yX3_sangAhead.cls yX3_sangAhead yX3_sangAhead ∈ UW := (uw_s 14 (by decide +kernel) (by decide +kernel))
theorem mv_RX3_146 : MV RX3 146 yX3_sangAhead cX3_sangAhead 1 (some .int) 0 := ⟨⟨(uw_t 706 (by decide +kernel) (by decide +kernel)), wm_X3_sangAhead, ws_X3_sangAhead, wi_RX3, wc_X3_sangAhead⟩, wp_X3_sangAhead⟩
theorem mv_RX3_156 : MV RX3 156 yX1_reaches cX1_reaches 4 (some .boolean) 3 := ⟨⟨(uw_t 714 (by decide +kernel) (by decide +kernel)), wm_X1_reaches, ws_X1_reaches, wi_RX1, wc_X1_reaches⟩, wp_X1_reaches⟩
theorem mv_RX3_160 : MV RX3 160 yX1_sounds cX1_sounds 2 (some .boolean) 1 := ⟨⟨(uw_t 730 (by decide +kernel) (by decide +kernel)), wm_X1_sounds, ws_X1_sounds, wi_RX1, wc_X1_sounds⟩, wp_X1_sounds⟩
theorem mv_RX3_163 : MV RX3 163 yX1_peopleOf cX1_peopleOf 4 (some .int) 1 := ⟨⟨(uw_t 731 (by decide +kernel) (by decide +kernel)), wm_X1_peopleOf, ws_X1_peopleOf, wi_RX1, wc_X1_peopleOf⟩, wp_X1_peopleOf⟩
theorem mv_RX3_166 : MV RX3 166 yX1_rentsOf cX1_rentsOf 4 (some .int) 1 := ⟨⟨(uw_t 735 (by decide +kernel) (by decide +kernel)), wm_X1_rentsOf, ws_X1_rentsOf, wi_RX1, wc_X1_rentsOf⟩, wp_X1_rentsOf⟩
theorem wc_X3_beginNight : Cond.code yX3_beginNight cX3_beginNight 2 none ∈ UW := (uw_t 687 (by decide +kernel) (by decide +kernel))
theorem wp_X3_beginNight : yX3_beginNight.cls ≠ "java/lang/invoke/MethodHandle" ∧ yX3_beginNight.cls ≠ "java/lang/invoke/VarHandle" ∧ (parseMethodDescriptor yX3_beginNight.desc).map (fun d => d.parameters.length) = some 0 := by decide +kernel
theorem wm_X3_beginNight : Cond.instanceMethod yX3_beginNight ∈ UW := (uw_t 686 (by decide +kernel) (by decide +kernel))
theorem ws_X3_beginNight : Cond.selects yX3_beginNight.cls yX3_beginNight yX3_beginNight ∈ UW := (uw_s 11 (by decide +kernel) (by decide +kernel))
theorem mv_RX3_80 : MV RX3 80 yX3_beginNight cX3_beginNight 2 none 0 := ⟨⟨(uw_t 684 (by decide +kernel) (by decide +kernel)), wm_X3_beginNight, ws_X3_beginNight, wi_RX3, wc_X3_beginNight⟩, wp_X3_beginNight⟩
theorem wc_X1_nextFrom : Cond.code yX1_nextFrom cX1_nextFrom 3 (some .int) ∈ UW := (uw_t 691 (by decide +kernel) (by decide +kernel))
theorem wp_X1_nextFrom : yX1_nextFrom.cls ≠ "java/lang/invoke/MethodHandle" ∧ yX1_nextFrom.cls ≠ "java/lang/invoke/VarHandle" ∧ (parseMethodDescriptor yX1_nextFrom.desc).map (fun d => d.parameters.length) = some 1 := by decide +kernel
theorem wm_X1_nextFrom : Cond.instanceMethod yX1_nextFrom ∈ UW := (uw_t 689 (by decide +kernel) (by decide +kernel))
theorem ws_X1_nextFrom : Cond.selects yX1_nextFrom.cls yX1_nextFrom yX1_nextFrom ∈ UW := (uw_t 690 (by decide +kernel) (by decide +kernel))
theorem mv_RX3_83 : MV RX3 83 yX1_nextFrom cX1_nextFrom 3 (some .int) 1 := ⟨⟨(uw_t 688 (by decide +kernel) (by decide +kernel)), wm_X1_nextFrom, ws_X1_nextFrom, wi_RX1, wc_X1_nextFrom⟩, wp_X1_nextFrom⟩
theorem wc_X3_enter : Cond.code yX3_enter cX3_enter 2 none ∈ UW := (uw_t 680 (by decide +kernel) (by decide +kernel))
theorem wp_X3_enter : yX3_enter.cls ≠ "java/lang/invoke/MethodHandle" ∧ yX3_enter.cls ≠ "java/lang/invoke/VarHandle" ∧ (parseMethodDescriptor yX3_enter.desc).map (fun d => d.parameters.length) = some 1 := by decide +kernel
theorem wm_X3_enter : Cond.instanceMethod yX3_enter ∈ UW := (uw_t 679 (by decide +kernel) (by decide +kernel))
theorem ws_X3_enter : Cond.selects yX3_enter.cls yX3_enter yX3_enter ∈ UW := (uw_s 10 (by decide +kernel) (by decide +kernel))
theorem mv_RX3_94 : MV RX3 94 yX3_enter cX3_enter 2 none 1 := ⟨⟨(uw_t 677 (by decide +kernel) (by decide +kernel)), wm_X3_enter, ws_X3_enter, wi_RX3, wc_X3_enter⟩, wp_X3_enter⟩
theorem wc_X1_addFloor : Cond.code yX1_addFloor cX1_addFloor 3 none ∈ UW := (uw_t 594 (by decide +kernel) (by decide +kernel))
theorem wp_X1_addFloor : yX1_addFloor.cls ≠ "java/lang/invoke/MethodHandle" ∧ yX1_addFloor.cls ≠ "java/lang/invoke/VarHandle" ∧ (parseMethodDescriptor yX1_addFloor.desc).map (fun d => d.parameters.length) = some 2 := by decide +kernel
theorem wm_X1_addFloor : Cond.instanceMethod yX1_addFloor ∈ UW := (uw_t 592 (by decide +kernel) (by decide +kernel))
theorem ws_X1_addFloor : Cond.selects yX1_addFloor.cls yX1_addFloor yX1_addFloor ∈ UW := (uw_t 593 (by decide +kernel) (by decide +kernel))
theorem mv_RX4_114 : MV RX4 114 yX1_addFloor cX1_addFloor 3 none 2 := ⟨⟨(uw_t 591 (by decide +kernel) (by decide +kernel)), wm_X1_addFloor, ws_X1_addFloor, wi_RX1, wc_X1_addFloor⟩, wp_X1_addFloor⟩
theorem wc_X1_addBar : Cond.code yX1_addBar cX1_addBar 5 none ∈ UW := (uw_t 598 (by decide +kernel) (by decide +kernel))
theorem wp_X1_addBar : yX1_addBar.cls ≠ "java/lang/invoke/MethodHandle" ∧ yX1_addBar.cls ≠ "java/lang/invoke/VarHandle" ∧ (parseMethodDescriptor yX1_addBar.desc).map (fun d => d.parameters.length) = some 4 := by decide +kernel
theorem wm_X1_addBar : Cond.instanceMethod yX1_addBar ∈ UW := (uw_t 596 (by decide +kernel) (by decide +kernel))
theorem ws_X1_addBar : Cond.selects yX1_addBar.cls yX1_addBar yX1_addBar ∈ UW := (uw_t 597 (by decide +kernel) (by decide +kernel))
theorem mv_RX4_117 : MV RX4 117 yX1_addBar cX1_addBar 5 none 4 := ⟨⟨(uw_t 595 (by decide +kernel) (by decide +kernel)), wm_X1_addBar, ws_X1_addBar, wi_RX1, wc_X1_addBar⟩, wp_X1_addBar⟩
theorem wc_X1_addSinger : Cond.code yX1_addSinger cX1_addSinger 4 none ∈ UW := (uw_t 602 (by decide +kernel) (by decide +kernel))
theorem wp_X1_addSinger : yX1_addSinger.cls ≠ "java/lang/invoke/MethodHandle" ∧ yX1_addSinger.cls ≠ "java/lang/invoke/VarHandle" ∧ (parseMethodDescriptor yX1_addSinger.desc).map (fun d => d.parameters.length) = some 3 := by decide +kernel
theorem wm_X1_addSinger : Cond.instanceMethod yX1_addSinger ∈ UW := (uw_t 600 (by decide +kernel) (by decide +kernel))
theorem ws_X1_addSinger : Cond.selects yX1_addSinger.cls yX1_addSinger yX1_addSinger ∈ UW := (uw_t 601 (by decide +kernel) (by decide +kernel))
theorem mv_RX4_121 : MV RX4 121 yX1_addSinger cX1_addSinger 4 none 3 := ⟨⟨(uw_t 599 (by decide +kernel) (by decide +kernel)), wm_X1_addSinger, ws_X1_addSinger, wi_RX1, wc_X1_addSinger⟩, wp_X1_addSinger⟩
theorem wc_X6_add : Cond.code yX6_add cX6_add 3 none ∈ UW := (uw_t 606 (by decide +kernel) (by decide +kernel))
theorem wp_X6_add : yX6_add.cls ≠ "java/lang/invoke/MethodHandle" ∧ yX6_add.cls ≠ "java/lang/invoke/VarHandle" ∧ (parseMethodDescriptor yX6_add.desc).map (fun d => d.parameters.length) = some 2 := by decide +kernel
theorem wm_X6_add : Cond.instanceMethod yX6_add ∈ UW := (uw_t 604 (by decide +kernel) (by decide +kernel))
theorem ws_X6_add : Cond.selects yX6_add.cls yX6_add yX6_add ∈ UW := (uw_t 605 (by decide +kernel) (by decide +kernel))
theorem mv_RX4_131 : MV RX4 131 yX6_add cX6_add 3 none 2 := ⟨⟨(uw_t 603 (by decide +kernel) (by decide +kernel)), wm_X6_add, ws_X6_add, wi_RX6, wc_X6_add⟩, wp_X6_add⟩
theorem wc_X4_isWord : Cond.code yX4_isWord cX4_isWord 3 (some .boolean) ∈ UW := (uw_t 513 (by decide +kernel) (by decide +kernel))
theorem wp_X4_isWord : yX4_isWord.cls ≠ "java/lang/invoke/MethodHandle" ∧ yX4_isWord.cls ≠ "java/lang/invoke/VarHandle" ∧ (parseMethodDescriptor yX4_isWord.desc).map (fun d => d.parameters.length) = some 1 := by decide +kernel
theorem wm_X4_isWord : Cond.instanceMethod yX4_isWord ∈ UW := (uw_t 512 (by decide +kernel) (by decide +kernel))
theorem ws_X4_isWord : Cond.selects yX4_isWord.cls yX4_isWord yX4_isWord ∈ UW := (uw_s 4 (by decide +kernel) (by decide +kernel))
theorem mv_RX4_138 : MV RX4 138 yX4_isWord cX4_isWord 3 (some .boolean) 1 := ⟨⟨(uw_t 510 (by decide +kernel) (by decide +kernel)), wm_X4_isWord, ws_X4_isWord, wi_RX4, wc_X4_isWord⟩, wp_X4_isWord⟩
theorem wc_X4_byteAt : Cond.code yX4_byteAt cX4_byteAt 2 (some .int) ∈ UW := (uw_t 477 (by decide +kernel) (by decide +kernel))
theorem wp_X4_byteAt : yX4_byteAt.cls ≠ "java/lang/invoke/MethodHandle" ∧ yX4_byteAt.cls ≠ "java/lang/invoke/VarHandle" ∧ (parseMethodDescriptor yX4_byteAt.desc).map (fun d => d.parameters.length) = some 1 := by decide +kernel
theorem wm_X4_byteAt : Cond.instanceMethod yX4_byteAt ∈ UW := (uw_t 476 (by decide +kernel) (by decide +kernel))
theorem ws_X4_byteAt : Cond.selects yX4_byteAt.cls yX4_byteAt yX4_byteAt ∈ UW := (uw_s 1 (by decide +kernel) (by decide +kernel))
theorem mv_RX4_171 : MV RX4 171 yX4_byteAt cX4_byteAt 2 (some .int) 1 := ⟨⟨(uw_t 474 (by decide +kernel) (by decide +kernel)), wm_X4_byteAt, ws_X4_byteAt, wi_RX4, wc_X4_byteAt⟩, wp_X4_byteAt⟩
theorem wc_X1_clear : Cond.code yX1_clear cX1_clear 1 none ∈ UW := (uw_t 469 (by decide +kernel) (by decide +kernel))
theorem wp_X1_clear : yX1_clear.cls ≠ "java/lang/invoke/MethodHandle" ∧ yX1_clear.cls ≠ "java/lang/invoke/VarHandle" ∧ (parseMethodDescriptor yX1_clear.desc).map (fun d => d.parameters.length) = some 0 := by decide +kernel
theorem wm_X1_clear : Cond.instanceMethod yX1_clear ∈ UW := (uw_t 467 (by decide +kernel) (by decide +kernel))
theorem ws_X1_clear : Cond.selects yX1_clear.cls yX1_clear yX1_clear ∈ UW := (uw_t 468 (by decide +kernel) (by decide +kernel))
theorem mv_RX4_57 : MV RX4 57 yX1_clear cX1_clear 1 none 0 := ⟨⟨(uw_t 466 (by decide +kernel) (by decide +kernel)), wm_X1_clear, ws_X1_clear, wi_RX1, wc_X1_clear⟩, wp_X1_clear⟩
theorem wc_X4_advance : Cond.code yX4_advance cX4_advance 2 none ∈ UW := (uw_t 473 (by decide +kernel) (by decide +kernel))
theorem wp_X4_advance : yX4_advance.cls ≠ "java/lang/invoke/MethodHandle" ∧ yX4_advance.cls ≠ "java/lang/invoke/VarHandle" ∧ (parseMethodDescriptor yX4_advance.desc).map (fun d => d.parameters.length) = some 0 := by decide +kernel
theorem wm_X4_advance : Cond.instanceMethod yX4_advance ∈ UW := (uw_t 472 (by decide +kernel) (by decide +kernel))
theorem ws_X4_advance : Cond.selects yX4_advance.cls yX4_advance yX4_advance ∈ UW := (uw_s 0 (by decide +kernel) (by decide +kernel))
theorem mv_RX4_61 : MV RX4 61 yX4_advance cX4_advance 2 none 0 := ⟨⟨(uw_t 470 (by decide +kernel) (by decide +kernel)), wm_X4_advance, ws_X4_advance, wi_RX4, wc_X4_advance⟩, wp_X4_advance⟩
theorem wc_X4_readLine : Cond.code yX4_readLine cX4_readLine 4 none ∈ UW := (uw_t 490 (by decide +kernel) (by decide +kernel))
theorem wp_X4_readLine : yX4_readLine.cls ≠ "java/lang/invoke/MethodHandle" ∧ yX4_readLine.cls ≠ "java/lang/invoke/VarHandle" ∧ (parseMethodDescriptor yX4_readLine.desc).map (fun d => d.parameters.length) = some 1 := by decide +kernel
theorem wm_X4_readLine : Cond.instanceMethod yX4_readLine ∈ UW := (uw_t 489 (by decide +kernel) (by decide +kernel))
theorem ws_X4_readLine : Cond.selects yX4_readLine.cls yX4_readLine yX4_readLine ∈ UW := (uw_s 2 (by decide +kernel) (by decide +kernel))
theorem mv_RX4_64 : MV RX4 64 yX4_readLine cX4_readLine 4 none 1 := ⟨⟨(uw_t 487 (by decide +kernel) (by decide +kernel)), wm_X4_readLine, ws_X4_readLine, wi_RX4, wc_X4_readLine⟩, wp_X4_readLine⟩
theorem wc_X1_isWhole : Cond.code yX1_isWhole cX1_isWhole 2 (some .boolean) ∈ UW := (uw_t 610 (by decide +kernel) (by decide +kernel))
theorem wp_X1_isWhole : yX1_isWhole.cls ≠ "java/lang/invoke/MethodHandle" ∧ yX1_isWhole.cls ≠ "java/lang/invoke/VarHandle" ∧ (parseMethodDescriptor yX1_isWhole.desc).map (fun d => d.parameters.length) = some 0 := by decide +kernel
theorem wm_X1_isWhole : Cond.instanceMethod yX1_isWhole ∈ UW := (uw_t 608 (by decide +kernel) (by decide +kernel))
theorem ws_X1_isWhole : Cond.selects yX1_isWhole.cls yX1_isWhole yX1_isWhole ∈ UW := (uw_t 609 (by decide +kernel) (by decide +kernel))
theorem mv_RX4_67 : MV RX4 67 yX1_isWhole cX1_isWhole 2 (some .boolean) 0 := ⟨⟨(uw_t 607 (by decide +kernel) (by decide +kernel)), wm_X1_isWhole, ws_X1_isWhole, wi_RX1, wc_X1_isWhole⟩, wp_X1_isWhole⟩
theorem wc_X4_blame : Cond.code yX4_blame cX4_blame 3 none ∈ UW := (uw_t 573 (by decide +kernel) (by decide +kernel))
theorem wp_X4_blame : yX4_blame.cls ≠ "java/lang/invoke/MethodHandle" ∧ yX4_blame.cls ≠ "java/lang/invoke/VarHandle" ∧ (parseMethodDescriptor yX4_blame.desc).map (fun d => d.parameters.length) = some 2 := by decide +kernel
theorem wm_X4_blame : Cond.instanceMethod yX4_blame ∈ UW := (uw_t 572 (by decide +kernel) (by decide +kernel))
theorem ws_X4_blame : Cond.selects yX4_blame.cls yX4_blame yX4_blame ∈ UW := (uw_s 7 (by decide +kernel) (by decide +kernel))
theorem mv_RX4_71 : MV RX4 71 yX4_blame cX4_blame 3 none 2 := ⟨⟨(uw_t 570 (by decide +kernel) (by decide +kernel)), wm_X4_blame, ws_X4_blame, wi_RX4, wc_X4_blame⟩, wp_X4_blame⟩
theorem wc_X4_lineOf : Cond.code yX4_lineOf cX4_lineOf 5 (some .int) ∈ UW := (uw_t 494 (by decide +kernel) (by decide +kernel))
theorem wp_X4_lineOf : yX4_lineOf.cls ≠ "java/lang/invoke/MethodHandle" ∧ yX4_lineOf.cls ≠ "java/lang/invoke/VarHandle" ∧ (parseMethodDescriptor yX4_lineOf.desc).map (fun d => d.parameters.length) = some 1 := by decide +kernel
theorem wm_X4_lineOf : Cond.instanceMethod yX4_lineOf ∈ UW := (uw_t 493 (by decide +kernel) (by decide +kernel))
theorem ws_X4_lineOf : Cond.selects yX4_lineOf.cls yX4_lineOf yX4_lineOf ∈ UW := (uw_s 3 (by decide +kernel) (by decide +kernel))
theorem mv_RX4_75 : MV RX4 75 yX4_lineOf cX4_lineOf 5 (some .int) 1 := ⟨⟨(uw_t 491 (by decide +kernel) (by decide +kernel)), wm_X4_lineOf, ws_X4_lineOf, wi_RX4, wc_X4_lineOf⟩, wp_X4_lineOf⟩
theorem wc_X4_breakOff : Cond.code yX4_breakOff cX4_breakOff 1 none ∈ UW := (uw_t 565 (by decide +kernel) (by decide +kernel))
theorem wp_X4_breakOff : yX4_breakOff.cls ≠ "java/lang/invoke/MethodHandle" ∧ yX4_breakOff.cls ≠ "java/lang/invoke/VarHandle" ∧ (parseMethodDescriptor yX4_breakOff.desc).map (fun d => d.parameters.length) = some 0 := by decide +kernel
theorem wm_X4_breakOff : Cond.instanceMethod yX4_breakOff ∈ UW := (uw_t 564 (by decide +kernel) (by decide +kernel))
theorem ws_X4_breakOff : Cond.selects yX4_breakOff.cls yX4_breakOff yX4_breakOff ∈ UW := (uw_s 5 (by decide +kernel) (by decide +kernel))
theorem mv_RX4_79 : MV RX4 79 yX4_breakOff cX4_breakOff 1 none 0 := ⟨⟨(uw_t 562 (by decide +kernel) (by decide +kernel)), wm_X4_breakOff, ws_X4_breakOff, wi_RX4, wc_X4_breakOff⟩, wp_X4_breakOff⟩
theorem wc_X4_isFull : Cond.code yX4_isFull cX4_isFull 3 (some .boolean) ∈ UW := (uw_t 569 (by decide +kernel) (by decide +kernel))
theorem wp_X4_isFull : yX4_isFull.cls ≠ "java/lang/invoke/MethodHandle" ∧ yX4_isFull.cls ≠ "java/lang/invoke/VarHandle" ∧ (parseMethodDescriptor yX4_isFull.desc).map (fun d => d.parameters.length) = some 2 := by decide +kernel
theorem wm_X4_isFull : Cond.instanceMethod yX4_isFull ∈ UW := (uw_t 568 (by decide +kernel) (by decide +kernel))
theorem ws_X4_isFull : Cond.selects yX4_isFull.cls yX4_isFull yX4_isFull ∈ UW := (uw_s 6 (by decide +kernel) (by decide +kernel))
theorem mv_RX4_82 : MV RX4 82 yX4_isFull cX4_isFull 3 (some .boolean) 2 := ⟨⟨(uw_t 566 (by decide +kernel) (by decide +kernel)), wm_X4_isFull, ws_X4_isFull, wi_RX4, wc_X4_isFull⟩, wp_X4_isFull⟩
theorem wc_X4_canBe : Cond.code yX4_canBe cX4_canBe 5 (some .boolean) ∈ UW := (uw_t 582 (by decide +kernel) (by decide +kernel))
theorem wp_X4_canBe : yX4_canBe.cls ≠ "java/lang/invoke/MethodHandle" ∧ yX4_canBe.cls ≠ "java/lang/invoke/VarHandle" ∧ (parseMethodDescriptor yX4_canBe.desc).map (fun d => d.parameters.length) = some 2 := by decide +kernel
theorem wm_X4_canBe : Cond.instanceMethod yX4_canBe ∈ UW := (uw_t 581 (by decide +kernel) (by decide +kernel))
theorem ws_X4_canBe : Cond.selects yX4_canBe.cls yX4_canBe yX4_canBe ∈ UW := (uw_s 8 (by decide +kernel) (by decide +kernel))
theorem mv_RX4_93 : MV RX4 93 yX4_canBe cX4_canBe 5 (some .boolean) 2 := ⟨⟨(uw_t 579 (by decide +kernel) (by decide +kernel)), wm_X4_canBe, ws_X4_canBe, wi_RX4, wc_X4_canBe⟩, wp_X4_canBe⟩
theorem wc_X4_keepLine : Cond.code yX4_keepLine cX4_keepLine 3 none ∈ UW := (uw_t 590 (by decide +kernel) (by decide +kernel))
theorem wp_X4_keepLine : yX4_keepLine.cls ≠ "java/lang/invoke/MethodHandle" ∧ yX4_keepLine.cls ≠ "java/lang/invoke/VarHandle" ∧ (parseMethodDescriptor yX4_keepLine.desc).map (fun d => d.parameters.length) = some 1 := by decide +kernel
theorem wm_X4_keepLine : Cond.instanceMethod yX4_keepLine ∈ UW := (uw_t 589 (by decide +kernel) (by decide +kernel))
theorem ws_X4_keepLine : Cond.selects yX4_keepLine.cls yX4_keepLine yX4_keepLine ∈ UW := (uw_s 9 (by decide +kernel) (by decide +kernel))
theorem mv_RX4_96 : MV RX4 96 yX4_keepLine cX4_keepLine 3 none 1 := ⟨⟨(uw_t 587 (by decide +kernel) (by decide +kernel)), wm_X4_keepLine, ws_X4_keepLine, wi_RX4, wc_X4_keepLine⟩, wp_X4_keepLine⟩
theorem wc_X5_sendOutAllBut : Cond.code yX5_sendOutAllBut cX5_sendOutAllBut 3 none ∈ UW := (uw_t 810 (by decide +kernel) (by decide +kernel))
theorem wp_X5_sendOutAllBut : yX5_sendOutAllBut.cls ≠ "java/lang/invoke/MethodHandle" ∧ yX5_sendOutAllBut.cls ≠ "java/lang/invoke/VarHandle" ∧ (parseMethodDescriptor yX5_sendOutAllBut.desc).map (fun d => d.parameters.length) = some 1 := by decide +kernel
theorem wm_X5_sendOutAllBut : Cond.instanceMethod yX5_sendOutAllBut ∈ UW := (uw_t 809 (by decide +kernel) (by decide +kernel))
theorem ws_X5_sendOutAllBut : Cond.selects yX5_sendOutAllBut.cls yX5_sendOutAllBut yX5_sendOutAllBut ∈ UW := (uw_s 24 (by decide +kernel) (by decide +kernel))
theorem mv_RX5_104 : MV RX5 104 yX5_sendOutAllBut cX5_sendOutAllBut 3 none 1 := ⟨⟨(uw_t 807 (by decide +kernel) (by decide +kernel)), wm_X5_sendOutAllBut, ws_X5_sendOutAllBut, wi_RX5, wc_X5_sendOutAllBut⟩, wp_X5_sendOutAllBut⟩
theorem wc_X5_takeIn : Cond.code yX5_takeIn cX5_takeIn 2 none ∈ UW := (uw_t 1140 (by decide +kernel) (by decide +kernel))
theorem wp_X5_takeIn : yX5_takeIn.cls ≠ "java/lang/invoke/MethodHandle" ∧ yX5_takeIn.cls ≠ "java/lang/invoke/VarHandle" ∧ (parseMethodDescriptor yX5_takeIn.desc).map (fun d => d.parameters.length) = some 1 := by decide +kernel
theorem wm_X5_takeIn : Cond.instanceMethod yX5_takeIn ∈ UW := (uw_t 1139 (by decide +kernel) (by decide +kernel))
theorem ws_X5_takeIn : Cond.selects yX5_takeIn.cls yX5_takeIn yX5_takeIn ∈ UW := (uw_s 39 (by decide +kernel) (by decide +kernel))
theorem mv_RX5_108 : MV RX5 108 yX5_takeIn cX5_takeIn 2 none 1 := ⟨⟨(uw_t 1137 (by decide +kernel) (by decide +kernel)), wm_X5_takeIn, ws_X5_takeIn, wi_RX5, wc_X5_takeIn⟩, wp_X5_takeIn⟩
theorem wc_X5_prepares : Cond.code yX5_prepares cX5_prepares 6 (some .boolean) ∈ UW := (uw_t 769 (by decide +kernel) (by decide +kernel))
theorem wp_X5_prepares : yX5_prepares.cls ≠ "java/lang/invoke/MethodHandle" ∧ yX5_prepares.cls ≠ "java/lang/invoke/VarHandle" ∧ (parseMethodDescriptor yX5_prepares.desc).map (fun d => d.parameters.length) = some 1 := by decide +kernel
theorem wm_X5_prepares : Cond.instanceMethod yX5_prepares ∈ UW := (uw_t 768 (by decide +kernel) (by decide +kernel))
theorem ws_X5_prepares : Cond.selects yX5_prepares.cls yX5_prepares yX5_prepares ∈ UW := (uw_s 20 (by decide +kernel) (by decide +kernel))
theorem mv_RX5_49 : MV RX5 49 yX5_prepares cX5_prepares 6 (some .boolean) 1 := ⟨⟨(uw_t 766 (by decide +kernel) (by decide +kernel)), wm_X5_prepares, ws_X5_prepares, wi_RX5, wc_X5_prepares⟩, wp_X5_prepares⟩
theorem wc_X5_places : Cond.code yX5_places cX5_places 4 (some .boolean) ∈ UW := (uw_t 780 (by decide +kernel) (by decide +kernel))
theorem wp_X5_places : yX5_places.cls ≠ "java/lang/invoke/MethodHandle" ∧ yX5_places.cls ≠ "java/lang/invoke/VarHandle" ∧ (parseMethodDescriptor yX5_places.desc).map (fun d => d.parameters.length) = some 1 := by decide +kernel
theorem wm_X5_places : Cond.instanceMethod yX5_places ∈ UW := (uw_t 779 (by decide +kernel) (by decide +kernel))
theorem ws_X5_places : Cond.selects yX5_places.cls yX5_places yX5_places ∈ UW := (uw_s 22 (by decide +kernel) (by decide +kernel))
theorem mv_RX5_53 : MV RX5 53 yX5_places cX5_places 4 (some .boolean) 1 := ⟨⟨(uw_t 777 (by decide +kernel) (by decide +kernel)), wm_X5_places, ws_X5_places, wi_RX5, wc_X5_places⟩, wp_X5_places⟩
theorem mv_RX5_60 : MV RX5 60 yX1_sounds cX1_sounds 2 (some .boolean) 1 := ⟨⟨(uw_t 771 (by decide +kernel) (by decide +kernel)), wm_X1_sounds, ws_X1_sounds, wi_RX1, wc_X1_sounds⟩, wp_X1_sounds⟩
theorem wc_X5_canTake : Cond.code yX5_canTake cX5_canTake 4 (some .boolean) ∈ UW := (uw_t 775 (by decide +kernel) (by decide +kernel))
theorem wp_X5_canTake : yX5_canTake.cls ≠ "java/lang/invoke/MethodHandle" ∧ yX5_canTake.cls ≠ "java/lang/invoke/VarHandle" ∧ (parseMethodDescriptor yX5_canTake.desc).map (fun d => d.parameters.length) = some 2 := by decide +kernel
theorem wm_X5_canTake : Cond.instanceMethod yX5_canTake ∈ UW := (uw_t 774 (by decide +kernel) (by decide +kernel))
theorem ws_X5_canTake : Cond.selects yX5_canTake.cls yX5_canTake yX5_canTake ∈ UW := (uw_s 21 (by decide +kernel) (by decide +kernel))
theorem mv_RX5_66 : MV RX5 66 yX5_canTake cX5_canTake 4 (some .boolean) 2 := ⟨⟨(uw_t 772 (by decide +kernel) (by decide +kernel)), wm_X5_canTake, ws_X5_canTake, wi_RX5, wc_X5_canTake⟩, wp_X5_canTake⟩
theorem mv_RX5_73 : MV RX5 73 yX1_reaches cX1_reaches 4 (some .boolean) 3 := ⟨⟨(uw_t 776 (by decide +kernel) (by decide +kernel)), wm_X1_reaches, ws_X1_reaches, wi_RX1, wc_X1_reaches⟩, wp_X1_reaches⟩
theorem wc_X5_maySing : Cond.code yX5_maySing cX5_maySing 3 (some .boolean) ∈ UW := (uw_t 784 (by decide +kernel) (by decide +kernel))
theorem wp_X5_maySing : yX5_maySing.cls ≠ "java/lang/invoke/MethodHandle" ∧ yX5_maySing.cls ≠ "java/lang/invoke/VarHandle" ∧ (parseMethodDescriptor yX5_maySing.desc).map (fun d => d.parameters.length) = some 2 := by decide +kernel
theorem wm_X5_maySing : Cond.instanceMethod yX5_maySing ∈ UW := (uw_t 783 (by decide +kernel) (by decide +kernel))
theorem ws_X5_maySing : Cond.selects yX5_maySing.cls yX5_maySing yX5_maySing ∈ UW := (uw_s 23 (by decide +kernel) (by decide +kernel))
theorem mv_RX5_77 : MV RX5 77 yX5_maySing cX5_maySing 3 (some .boolean) 2 := ⟨⟨(uw_t 781 (by decide +kernel) (by decide +kernel)), wm_X5_maySing, ws_X5_maySing, wi_RX5, wc_X5_maySing⟩, wp_X5_maySing⟩
theorem wc_X5_counts : Cond.code yX5_counts cX5_counts 5 (some .int) ∈ UW := (uw_t 1031 (by decide +kernel) (by decide +kernel))
theorem wp_X5_counts : yX5_counts.cls ≠ "java/lang/invoke/MethodHandle" ∧ yX5_counts.cls ≠ "java/lang/invoke/VarHandle" ∧ (parseMethodDescriptor yX5_counts.desc).map (fun d => d.parameters.length) = some 1 := by decide +kernel
theorem wm_X5_counts : Cond.instanceMethod yX5_counts ∈ UW := (uw_t 1030 (by decide +kernel) (by decide +kernel))
theorem ws_X5_counts : Cond.selects yX5_counts.cls yX5_counts yX5_counts ∈ UW := (uw_s 38 (by decide +kernel) (by decide +kernel))
theorem mv_RX5_80 : MV RX5 80 yX5_counts cX5_counts 5 (some .int) 1 := ⟨⟨(uw_t 1028 (by decide +kernel) (by decide +kernel)), wm_X5_counts, ws_X5_counts, wi_RX5, wc_X5_counts⟩, wp_X5_counts⟩
theorem wc_X5_seat : Cond.code yX5_seat cX5_seat 5 none ∈ UW := (uw_t 759 (by decide +kernel) (by decide +kernel))
theorem wp_X5_seat : yX5_seat.cls ≠ "java/lang/invoke/MethodHandle" ∧ yX5_seat.cls ≠ "java/lang/invoke/VarHandle" ∧ (parseMethodDescriptor yX5_seat.desc).map (fun d => d.parameters.length) = some 3 := by decide +kernel
theorem wm_X5_seat : Cond.instanceMethod yX5_seat ∈ UW := (uw_t 758 (by decide +kernel) (by decide +kernel))
theorem ws_X5_seat : Cond.selects yX5_seat.cls yX5_seat yX5_seat ∈ UW := (uw_s 18 (by decide +kernel) (by decide +kernel))
theorem mv_RX5_85 : MV RX5 85 yX5_seat cX5_seat 5 none 3 := ⟨⟨(uw_t 756 (by decide +kernel) (by decide +kernel)), wm_X5_seat, ws_X5_seat, wi_RX5, wc_X5_seat⟩, wp_X5_seat⟩
theorem wc_X5_fills : Cond.code yX5_fills cX5_fills 2 (some .boolean) ∈ UW := (uw_t 765 (by decide +kernel) (by decide +kernel))
theorem wp_X5_fills : yX5_fills.cls ≠ "java/lang/invoke/MethodHandle" ∧ yX5_fills.cls ≠ "java/lang/invoke/VarHandle" ∧ (parseMethodDescriptor yX5_fills.desc).map (fun d => d.parameters.length) = some 1 := by decide +kernel
theorem wm_X5_fills : Cond.instanceMethod yX5_fills ∈ UW := (uw_t 764 (by decide +kernel) (by decide +kernel))
theorem ws_X5_fills : Cond.selects yX5_fills.cls yX5_fills yX5_fills ∈ UW := (uw_s 19 (by decide +kernel) (by decide +kernel))
theorem mv_RX5_89 : MV RX5 89 yX5_fills cX5_fills 2 (some .boolean) 1 := ⟨⟨(uw_t 762 (by decide +kernel) (by decide +kernel)), wm_X5_fills, ws_X5_fills, wi_RX5, wc_X5_fills⟩, wp_X5_fills⟩
theorem mv_RX5_95 : MV RX5 95 yX1_everybody cX1_everybody 1 (some .int) 0 := ⟨⟨(uw_t 797 (by decide +kernel) (by decide +kernel)), wm_X1_everybody, ws_X1_everybody, wi_RX1, wc_X1_everybody⟩, wp_X1_everybody⟩
theorem mv_RX6_35 : MV RX6 35 yX6_add cX6_add 3 none 2 := ⟨⟨(uw_t 627 (by decide +kernel) (by decide +kernel)), wm_X6_add, ws_X6_add, wi_RX6, wc_X6_add⟩, wp_X6_add⟩
theorem wc_X1_copy : Cond.code yX1_copy cX1_copy 2 none ∈ UW := (uw_t 618 (by decide +kernel) (by decide +kernel))
theorem wp_X1_copy : yX1_copy.cls ≠ "java/lang/invoke/MethodHandle" ∧ yX1_copy.cls ≠ "java/lang/invoke/VarHandle" ∧ (parseMethodDescriptor yX1_copy.desc).map (fun d => d.parameters.length) = some 1 := by decide +kernel
theorem wm_X1_copy : Cond.instanceMethod yX1_copy ∈ UW := (uw_t 616 (by decide +kernel) (by decide +kernel))
theorem ws_X1_copy : Cond.selects yX1_copy.cls yX1_copy yX1_copy ∈ UW := (uw_t 617 (by decide +kernel) (by decide +kernel))
theorem mv_RX7_48 : MV RX7 48 yX1_copy cX1_copy 2 none 1 := ⟨⟨(uw_t 615 (by decide +kernel) (by decide +kernel)), wm_X1_copy, ws_X1_copy, wi_RX1, wc_X1_copy⟩, wp_X1_copy⟩
theorem wc_X6_copy : Cond.code yX6_copy cX6_copy 3 none ∈ UW := (uw_t 625 (by decide +kernel) (by decide +kernel))
theorem wp_X6_copy : yX6_copy.cls ≠ "java/lang/invoke/MethodHandle" ∧ yX6_copy.cls ≠ "java/lang/invoke/VarHandle" ∧ (parseMethodDescriptor yX6_copy.desc).map (fun d => d.parameters.length) = some 1 := by decide +kernel
theorem wm_X6_copy : Cond.instanceMethod yX6_copy ∈ UW := (uw_t 623 (by decide +kernel) (by decide +kernel))
theorem ws_X6_copy : Cond.selects yX6_copy.cls yX6_copy yX6_copy ∈ UW := (uw_t 624 (by decide +kernel) (by decide +kernel))
theorem mv_RX7_52 : MV RX7 52 yX6_copy cX6_copy 3 none 1 := ⟨⟨(uw_t 622 (by decide +kernel) (by decide +kernel)), wm_X6_copy, ws_X6_copy, wi_RX6, wc_X6_copy⟩, wp_X6_copy⟩
theorem wc_X8_free : Cond.code yX8_free cX8_free 2 none ∈ UW := (uw_t 904 (by decide +kernel) (by decide +kernel))
theorem wp_X8_free : yX8_free.cls ≠ "java/lang/invoke/MethodHandle" ∧ yX8_free.cls ≠ "java/lang/invoke/VarHandle" ∧ (parseMethodDescriptor yX8_free.desc).map (fun d => d.parameters.length) = some 0 := by decide +kernel
theorem wm_X8_free : Cond.instanceMethod yX8_free ∈ UW := (uw_t 903 (by decide +kernel) (by decide +kernel))
theorem ws_X8_free : Cond.selects yX8_free.cls yX8_free yX8_free ∈ UW := (uw_s 29 (by decide +kernel) (by decide +kernel))
theorem mv_RX8_28 : MV RX8 28 yX8_free cX8_free 2 none 0 := ⟨⟨(uw_t 901 (by decide +kernel) (by decide +kernel)), wm_X8_free, ws_X8_free, wi_RX8, wc_X8_free⟩, wp_X8_free⟩
theorem wc_X8_isWalled : Cond.code yX8_isWalled cX8_isWalled 2 (some .boolean) ∈ UW := (uw_t 908 (by decide +kernel) (by decide +kernel))
theorem wp_X8_isWalled : yX8_isWalled.cls ≠ "java/lang/invoke/MethodHandle" ∧ yX8_isWalled.cls ≠ "java/lang/invoke/VarHandle" ∧ (parseMethodDescriptor yX8_isWalled.desc).map (fun d => d.parameters.length) = some 1 := by decide +kernel
theorem wm_X8_isWalled : Cond.instanceMethod yX8_isWalled ∈ UW := (uw_t 907 (by decide +kernel) (by decide +kernel))
theorem ws_X8_isWalled : Cond.selects yX8_isWalled.cls yX8_isWalled yX8_isWalled ∈ UW := (uw_s 30 (by decide +kernel) (by decide +kernel))
theorem mv_RX8_31 : MV RX8 31 yX8_isWalled cX8_isWalled 2 (some .boolean) 1 := ⟨⟨(uw_t 905 (by decide +kernel) (by decide +kernel)), wm_X8_isWalled, ws_X8_isWalled, wi_RX8, wc_X8_isWalled⟩, wp_X8_isWalled⟩
theorem mv_RX8_49 : MV RX8 49 yX1_sounds cX1_sounds 2 (some .boolean) 1 := ⟨⟨(uw_t 914 (by decide +kernel) (by decide +kernel)), wm_X1_sounds, ws_X1_sounds, wi_RX1, wc_X1_sounds⟩, wp_X1_sounds⟩
theorem wc_X8_goTo : Cond.code yX8_goTo cX8_goTo 7 (some .int) ∈ UW := (uw_t 918 (by decide +kernel) (by decide +kernel))
theorem wp_X8_goTo : yX8_goTo.cls ≠ "java/lang/invoke/MethodHandle" ∧ yX8_goTo.cls ≠ "java/lang/invoke/VarHandle" ∧ (parseMethodDescriptor yX8_goTo.desc).map (fun d => d.parameters.length) = some 3 := by decide +kernel
theorem wm_X8_goTo : Cond.instanceMethod yX8_goTo ∈ UW := (uw_t 917 (by decide +kernel) (by decide +kernel))
theorem ws_X8_goTo : Cond.selects yX8_goTo.cls yX8_goTo yX8_goTo ∈ UW := (uw_s 31 (by decide +kernel) (by decide +kernel))
theorem mv_RX8_52 : MV RX8 52 yX8_goTo cX8_goTo 7 (some .int) 3 := ⟨⟨(uw_t 915 (by decide +kernel) (by decide +kernel)), wm_X8_goTo, ws_X8_goTo, wi_RX8, wc_X8_goTo⟩, wp_X8_goTo⟩
theorem wc_X8_waysNear : Cond.code yX8_waysNear cX8_waysNear 4 (some .int) ∈ UW := (uw_t 922 (by decide +kernel) (by decide +kernel))
theorem wp_X8_waysNear : yX8_waysNear.cls ≠ "java/lang/invoke/MethodHandle" ∧ yX8_waysNear.cls ≠ "java/lang/invoke/VarHandle" ∧ (parseMethodDescriptor yX8_waysNear.desc).map (fun d => d.parameters.length) = some 1 := by decide +kernel
theorem wm_X8_waysNear : Cond.instanceMethod yX8_waysNear ∈ UW := (uw_t 921 (by decide +kernel) (by decide +kernel))
theorem ws_X8_waysNear : Cond.selects yX8_waysNear.cls yX8_waysNear yX8_waysNear ∈ UW := (uw_s 32 (by decide +kernel) (by decide +kernel))
theorem mv_RX8_56 : MV RX8 56 yX8_waysNear cX8_waysNear 4 (some .int) 1 := ⟨⟨(uw_t 919 (by decide +kernel) (by decide +kernel)), wm_X8_waysNear, ws_X8_waysNear, wi_RX8, wc_X8_waysNear⟩, wp_X8_waysNear⟩
theorem wc_X8_lowest : Cond.code yX8_lowest cX8_lowest 3 (some .int) ∈ UW := (uw_t 937 (by decide +kernel) (by decide +kernel))
theorem wp_X8_lowest : yX8_lowest.cls ≠ "java/lang/invoke/MethodHandle" ∧ yX8_lowest.cls ≠ "java/lang/invoke/VarHandle" ∧ (parseMethodDescriptor yX8_lowest.desc).map (fun d => d.parameters.length) = some 1 := by decide +kernel
theorem wm_X8_lowest : Cond.instanceMethod yX8_lowest ∈ UW := (uw_t 936 (by decide +kernel) (by decide +kernel))
theorem ws_X8_lowest : Cond.selects yX8_lowest.cls yX8_lowest yX8_lowest ∈ UW := (uw_s 33 (by decide +kernel) (by decide +kernel))
theorem mv_RX8_78 : MV RX8 78 yX8_lowest cX8_lowest 3 (some .int) 1 := ⟨⟨(uw_t 934 (by decide +kernel) (by decide +kernel)), wm_X8_lowest, ws_X8_lowest, wi_RX8, wc_X8_lowest⟩, wp_X8_lowest⟩
theorem mv_RX8_81 : MV RX8 81 yX8_rows cX8_rows 5 (some .int) 0 := ⟨⟨(uw_t 938 (by decide +kernel) (by decide +kernel)), wm_X8_rows, ws_X8_rows, wi_RX8, wc_X8_rows⟩, wp_X8_rows⟩
theorem wc_X9_landlordFrom : Cond.code yX9_landlordFrom cX9_landlordFrom 6 (some .int) ∈ UW := (uw_t 881 (by decide +kernel) (by decide +kernel))
theorem wp_X9_landlordFrom : yX9_landlordFrom.cls ≠ "java/lang/invoke/MethodHandle" ∧ yX9_landlordFrom.cls ≠ "java/lang/invoke/VarHandle" ∧ (parseMethodDescriptor yX9_landlordFrom.desc).map (fun d => d.parameters.length) = some 1 := by decide +kernel
theorem wm_X9_landlordFrom : Cond.instanceMethod yX9_landlordFrom ∈ UW := (uw_t 880 (by decide +kernel) (by decide +kernel))
theorem ws_X9_landlordFrom : Cond.selects yX9_landlordFrom.cls yX9_landlordFrom yX9_landlordFrom ∈ UW := (uw_s 26 (by decide +kernel) (by decide +kernel))
theorem mv_RX9_40 : MV RX9 40 yX9_landlordFrom cX9_landlordFrom 6 (some .int) 1 := ⟨⟨(uw_t 878 (by decide +kernel) (by decide +kernel)), wm_X9_landlordFrom, ws_X9_landlordFrom, wi_RX9, wc_X9_landlordFrom⟩, wp_X9_landlordFrom⟩
theorem wc_X9_houseFrom : Cond.code yX9_houseFrom cX9_houseFrom 5 (some .int) ∈ UW := (uw_t 885 (by decide +kernel) (by decide +kernel))
theorem wp_X9_houseFrom : yX9_houseFrom.cls ≠ "java/lang/invoke/MethodHandle" ∧ yX9_houseFrom.cls ≠ "java/lang/invoke/VarHandle" ∧ (parseMethodDescriptor yX9_houseFrom.desc).map (fun d => d.parameters.length) = some 1 := by decide +kernel
theorem wm_X9_houseFrom : Cond.instanceMethod yX9_houseFrom ∈ UW := (uw_t 884 (by decide +kernel) (by decide +kernel))
theorem ws_X9_houseFrom : Cond.selects yX9_houseFrom.cls yX9_houseFrom yX9_houseFrom ∈ UW := (uw_s 27 (by decide +kernel) (by decide +kernel))
theorem mv_RX9_44 : MV RX9 44 yX9_houseFrom cX9_houseFrom 5 (some .int) 1 := ⟨⟨(uw_t 882 (by decide +kernel) (by decide +kernel)), wm_X9_houseFrom, ws_X9_houseFrom, wi_RX9, wc_X9_houseFrom⟩, wp_X9_houseFrom⟩
theorem mv_RX9_47 : MV RX9 47 yX1_sounds cX1_sounds 2 (some .boolean) 1 := ⟨⟨(uw_t 892 (by decide +kernel) (by decide +kernel)), wm_X1_sounds, ws_X1_sounds, wi_RX1, wc_X1_sounds⟩, wp_X1_sounds⟩
theorem wc_X9_awakeNow : Cond.code yX9_awakeNow cX9_awakeNow 3 (some .int) ∈ UW := (uw_t 889 (by decide +kernel) (by decide +kernel))
theorem wp_X9_awakeNow : yX9_awakeNow.cls ≠ "java/lang/invoke/MethodHandle" ∧ yX9_awakeNow.cls ≠ "java/lang/invoke/VarHandle" ∧ (parseMethodDescriptor yX9_awakeNow.desc).map (fun d => d.parameters.length) = some 0 := by decide +kernel
theorem wm_X9_awakeNow : Cond.instanceMethod yX9_awakeNow ∈ UW := (uw_t 888 (by decide +kernel) (by decide +kernel))
theorem ws_X9_awakeNow : Cond.selects yX9_awakeNow.cls yX9_awakeNow yX9_awakeNow ∈ UW := (uw_s 28 (by decide +kernel) (by decide +kernel))
theorem mv_RX9_59 : MV RX9 59 yX9_awakeNow cX9_awakeNow 3 (some .int) 0 := ⟨⟨(uw_t 886 (by decide +kernel) (by decide +kernel)), wm_X9_awakeNow, ws_X9_awakeNow, wi_RX9, wc_X9_awakeNow⟩, wp_X9_awakeNow⟩
theorem mv_RX9_72 : MV RX9 72 yX1_from cX1_from 2 (some .int) 1 := ⟨⟨(uw_t 891 (by decide +kernel) (by decide +kernel)), wm_X1_from, ws_X1_from, wi_RX1, wc_X1_from⟩, wp_X1_from⟩
theorem ct_RX10_184 : Cond.constantLong RX10 184 (-1) ∈ UW := (uw_t 834 (by decide +kernel) (by decide +kernel))
theorem ct_RX0_29 : Cond.constantLong RX0 29 100000000 ∈ UW := (uw_t 845 (by decide +kernel) (by decide +kernel))
theorem ct_RX0_31 : Cond.constantLong RX0 31 (-1) ∈ UW := (uw_t 855 (by decide +kernel) (by decide +kernel))
theorem ct_RX0_44 : Cond.constantLong RX0 44 10 ∈ UW := (uw_t 851 (by decide +kernel) (by decide +kernel))
theorem ct_RX3_122 : Cond.constant RX3 122 1103515245 ∈ UW := (uw_t 1002 (by decide +kernel) (by decide +kernel))
theorem ct_RX5_84 : Cond.constant RX5 84 999999 ∈ UW := (uw_t 1032 (by decide +kernel) (by decide +kernel))
theorem ct_RX11_76 : Cond.constantLong RX11 76 1048576 ∈ UW := (uw_t 1380 (by decide +kernel) (by decide +kernel))
theorem ct_RX11_99 : Cond.constantLong RX11 99 32 ∈ UW := (uw_t 1369 (by decide +kernel) (by decide +kernel))
theorem ct_RX11_101 : Cond.constantLong RX11 101 96 ∈ UW := (uw_t 1370 (by decide +kernel) (by decide +kernel))
theorem ct_RX11_221 : Cond.constant RX11 221 99999999 ∈ UW := (uw_t 1494 (by decide +kernel) (by decide +kernel))
theorem ct_RX11_264 : Cond.constant RX11 264 999999 ∈ UW := (uw_t 1562 (by decide +kernel) (by decide +kernel))
theorem ct_RX11_289 : Cond.constantLong RX11 289 10 ∈ UW := (uw_t 1615 (by decide +kernel) (by decide +kernel))
theorem ct_RX11_301 : Cond.constantLong RX11 301 (-1) ∈ UW := (uw_t 1603 (by decide +kernel) (by decide +kernel))
theorem ct_RX11_480 : Cond.constant RX11 480 1103515245 ∈ UW := (uw_t 1855 (by decide +kernel) (by decide +kernel))
theorem ct_RJ6_265 : Cond.constant RJ6 265 1431655765 ∈ UW := (uw_t 804 (by decide +kernel) (by decide +kernel))
theorem ct_RJ6_266 : Cond.constant RJ6 266 858993459 ∈ UW := (uw_t 805 (by decide +kernel) (by decide +kernel))
theorem ct_RJ6_267 : Cond.constant RJ6 267 252645135 ∈ UW := (uw_t 806 (by decide +kernel) (by decide +kernel))
