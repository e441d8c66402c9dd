abbrev cX0_init : ByteArray := prog_2_method_1_code
def yX0_init : MethodName := ⟨RX0, "<init>", "()V"⟩
abbrev cX1_init : ByteArray := prog_3_method_1_code
def yX1_init : MethodName := ⟨RX1, "<init>", "()V"⟩
abbrev cX2_init : ByteArray := prog_4_method_1_code
def yX2_init : MethodName := ⟨RX2, "<init>", "()V"⟩
abbrev cX3_init : ByteArray := prog_5_method_1_code
def yX3_init : MethodName := ⟨RX3, "<init>", "()V"⟩
abbrev cX4_init : ByteArray := prog_6_method_1_code
def yX4_init : MethodName := ⟨RX4, "<init>", "()V"⟩
abbrev cX5_init : ByteArray := prog_7_method_1_code
def yX5_init : MethodName := ⟨RX5, "<init>", "()V"⟩
abbrev cX6_init : ByteArray := prog_8_method_1_code
def yX6_init : MethodName := ⟨RX6, "<init>", "(I)V"⟩
abbrev cX7_init : ByteArray := prog_9_method_1_code
def yX7_init : MethodName := ⟨RX7, "<init>", "()V"⟩
abbrev cX8_init : ByteArray := prog_10_method_1_code
def yX8_init : MethodName := ⟨RX8, "<init>", "()V"⟩
abbrev cX9_init : ByteArray := prog_11_method_1_code
def yX9_init : MethodName := ⟨RX9, "<init>", "()V"⟩
abbrev cX10_init : ByteArray := prog_1_method_1_code
def yX10_init : MethodName := ⟨RX10, "<init>", "()V"⟩
abbrev cX11_init : ByteArray := prog_13_method_1_code
def yX11_init : MethodName := ⟨RX11, "<init>", "()V"⟩
theorem dX1_init_0 : decode cX1_init 0 = .ok (.aload_n 0, 1) := by decide +kernel
theorem dX1_init_1 : decode cX1_init 1 = .ok (.invokespecial 3, 3) := by decide +kernel
theorem dX1_init_4 : decode cX1_init 4 = .ok (.aload_n 0, 1) := by decide +kernel
theorem dX1_init_5 : decode cX1_init 5 = .ok (.iconst 0, 1) := by decide +kernel
theorem dX1_init_6 : decode cX1_init 6 = .ok (.putfield 9, 3) := by decide +kernel
theorem dX1_init_9 : decode cX1_init 9 = .ok (.aload_n 0, 1) := by decide +kernel
theorem dX1_init_10 : decode cX1_init 10 = .ok (.iconst 0, 1) := by decide +kernel
theorem dX1_init_11 : decode cX1_init 11 = .ok (.putfield 15, 3) := by decide +kernel
theorem dX1_init_14 : decode cX1_init 14 = .ok (.aload_n 0, 1) := by decide +kernel
theorem dX1_init_15 : decode cX1_init 15 = .ok (.iconst 0, 1) := by decide +kernel
theorem dX1_init_16 : decode cX1_init 16 = .ok (.putfield 18, 3) := by decide +kernel
theorem dX1_init_19 : decode cX1_init 19 = .ok (.aload_n 0, 1) := by decide +kernel
theorem dX1_init_20 : decode cX1_init 20 = .ok (.bipush 9, 2) := by decide +kernel
theorem dX1_init_22 : decode cX1_init 22 = .ok (.putfield 21, 3) := by decide +kernel
theorem dX1_init_25 : decode cX1_init 25 = .ok (.aload_n 0, 1) := by decide +kernel
theorem dX1_init_26 : decode cX1_init 26 = .ok (.iconst 0, 1) := by decide +kernel
theorem dX1_init_27 : decode cX1_init 27 = .ok (.putfield 24, 3) := by decide +kernel
theorem dX1_init_30 : decode cX1_init 30 = .ok (.aload_n 0, 1) := by decide +kernel
theorem dX1_init_31 : decode cX1_init 31 = .ok (.bipush 6, 2) := by decide +kernel
theorem dX1_init_33 : decode cX1_init 33 = .ok (.newarray .int, 2) := by decide +kernel
theorem dX1_init_35 : decode cX1_init 35 = .ok (.putfield 27, 3) := by decide +kernel
theorem dX1_init_38 : decode cX1_init 38 = .ok (.aload_n 0, 1) := by decide +kernel
theorem dX1_init_39 : decode cX1_init 39 = .ok (.bipush 6, 2) := by decide +kernel
theorem dX1_init_41 : decode cX1_init 41 = .ok (.newarray .int, 2) := by decide +kernel
theorem dX1_init_43 : decode cX1_init 43 = .ok (.putfield 31, 3) := by decide +kernel
theorem dX1_init_46 : decode cX1_init 46 = .ok (.aload_n 0, 1) := by decide +kernel
theorem dX1_init_47 : decode cX1_init 47 = .ok (.bipush 8, 2) := by decide +kernel
theorem dX1_init_49 : decode cX1_init 49 = .ok (.newarray .int, 2) := by decide +kernel
theorem dX1_init_51 : decode cX1_init 51 = .ok (.putfield 34, 3) := by decide +kernel
theorem dX1_init_54 : decode cX1_init 54 = .ok (.aload_n 0, 1) := by decide +kernel
theorem dX1_init_55 : decode cX1_init 55 = .ok (.bipush 8, 2) := by decide +kernel
theorem dX1_init_57 : decode cX1_init 57 = .ok (.newarray .int, 2) := by decide +kernel
theorem dX1_init_59 : decode cX1_init 59 = .ok (.putfield 37, 3) := by decide +kernel
theorem dX1_init_62 : decode cX1_init 62 = .ok (.aload_n 0, 1) := by decide +kernel
theorem dX1_init_63 : decode cX1_init 63 = .ok (.bipush 8, 2) := by decide +kernel
theorem dX1_init_65 : decode cX1_init 65 = .ok (.newarray .int, 2) := by decide +kernel
theorem dX1_init_67 : decode cX1_init 67 = .ok (.putfield 40, 3) := by decide +kernel
theorem dX1_init_70 : decode cX1_init 70 = .ok (.aload_n 0, 1) := by decide +kernel
theorem dX1_init_71 : decode cX1_init 71 = .ok (.bipush 8, 2) := by decide +kernel
theorem dX1_init_73 : decode cX1_init 73 = .ok (.newarray .int, 2) := by decide +kernel
theorem dX1_init_75 : decode cX1_init 75 = .ok (.putfield 43, 3) := by decide +kernel
theorem dX1_init_78 : decode cX1_init 78 = .ok (.aload_n 0, 1) := by decide +kernel
theorem dX1_init_79 : decode cX1_init 79 = .ok (.iconst 5, 1) := by decide +kernel
theorem dX1_init_80 : decode cX1_init 80 = .ok (.newarray .int, 2) := by decide +kernel
theorem dX1_init_82 : decode cX1_init 82 = .ok (.putfield 46, 3) := by decide +kernel
theorem dX1_init_85 : decode cX1_init 85 = .ok (.aload_n 0, 1) := by decide +kernel
theorem dX1_init_86 : decode cX1_init 86 = .ok (.iconst 5, 1) := by decide +kernel
theorem dX1_init_87 : decode cX1_init 87 = .ok (.newarray .int, 2) := by decide +kernel
theorem dX1_init_89 : decode cX1_init 89 = .ok (.putfield 49, 3) := by decide +kernel
theorem dX1_init_92 : decode cX1_init 92 = .ok (.aload_n 0, 1) := by decide +kernel
theorem dX1_init_93 : decode cX1_init 93 = .ok (.iconst 5, 1) := by decide +kernel
theorem dX1_init_94 : decode cX1_init 94 = .ok (.newarray .int, 2) := by decide +kernel
theorem dX1_init_96 : decode cX1_init 96 = .ok (.putfield 52, 3) := by decide +kernel
theorem dX1_init_99 : decode cX1_init 99 = .ok (.return_, 1) := by decide +kernel
theorem dX6_init_0 : decode cX6_init 0 = .ok (.aload_n 0, 1) := by decide +kernel
theorem dX6_init_1 : decode cX6_init 1 = .ok (.invokespecial 1, 3) := by decide +kernel
theorem dX6_init_4 : decode cX6_init 4 = .ok (.aload_n 0, 1) := by decide +kernel
theorem dX6_init_5 : decode cX6_init 5 = .ok (.iconst 0, 1) := by decide +kernel
theorem dX6_init_6 : decode cX6_init 6 = .ok (.putfield 7, 3) := by decide +kernel
theorem dX6_init_9 : decode cX6_init 9 = .ok (.aload_n 0, 1) := by decide +kernel
theorem dX6_init_10 : decode cX6_init 10 = .ok (.iconst 0, 1) := by decide +kernel
theorem dX6_init_11 : decode cX6_init 11 = .ok (.iload_n 1, 1) := by decide +kernel
theorem dX6_init_12 : decode cX6_init 12 = .ok (.invokestatic 13, 3) := by decide +kernel
theorem dX6_init_15 : decode cX6_init 15 = .ok (.putfield 19, 3) := by decide +kernel
theorem dX6_init_18 : decode cX6_init 18 = .ok (.aload_n 0, 1) := by decide +kernel
theorem dX6_init_19 : decode cX6_init 19 = .ok (.aload_n 0, 1) := by decide +kernel
theorem dX6_init_20 : decode cX6_init 20 = .ok (.getfield 19, 3) := by decide +kernel
theorem dX6_init_23 : decode cX6_init 23 = .ok (.newarray .int, 2) := by decide +kernel
theorem dX6_init_25 : decode cX6_init 25 = .ok (.putfield 22, 3) := by decide +kernel
theorem dX6_init_28 : decode cX6_init 28 = .ok (.aload_n 0, 1) := by decide +kernel
theorem dX6_init_29 : decode cX6_init 29 = .ok (.aload_n 0, 1) := by decide +kernel
theorem dX6_init_30 : decode cX6_init 30 = .ok (.getfield 19, 3) := by decide +kernel
theorem dX6_init_33 : decode cX6_init 33 = .ok (.newarray .int, 2) := by decide +kernel
theorem dX6_init_35 : decode cX6_init 35 = .ok (.putfield 26, 3) := by decide +kernel
theorem dX6_init_38 : decode cX6_init 38 = .ok (.return_, 1) := by decide +kernel
theorem dX7_init_0 : decode cX7_init 0 = .ok (.aload_n 0, 1) := by decide +kernel
theorem dX7_init_1 : decode cX7_init 1 = .ok (.invokespecial 3, 3) := by decide +kernel
theorem dX7_init_4 : decode cX7_init 4 = .ok (.aload_n 0, 1) := by decide +kernel
theorem dX7_init_5 : decode cX7_init 5 = .ok (.sipush 600, 3) := by decide +kernel
theorem dX7_init_8 : decode cX7_init 8 = .ok (.newarray .byte, 2) := by decide +kernel
theorem dX7_init_10 : decode cX7_init 10 = .ok (.putfield 9, 3) := by decide +kernel
theorem dX7_init_13 : decode cX7_init 13 = .ok (.aload_n 0, 1) := by decide +kernel
theorem dX7_init_14 : decode cX7_init 14 = .ok (.iconst 0, 1) := by decide +kernel
theorem dX7_init_15 : decode cX7_init 15 = .ok (.putfield 15, 3) := by decide +kernel
theorem dX7_init_18 : decode cX7_init 18 = .ok (.aload_n 0, 1) := by decide +kernel
theorem dX7_init_19 : decode cX7_init 19 = .ok (.iconst 0, 1) := by decide +kernel
theorem dX7_init_20 : decode cX7_init 20 = .ok (.putfield 19, 3) := by decide +kernel
theorem dX7_init_23 : decode cX7_init 23 = .ok (.aload_n 0, 1) := by decide +kernel
theorem dX7_init_24 : decode cX7_init 24 = .ok (.iconst (-1), 1) := by decide +kernel
theorem dX7_init_25 : decode cX7_init 25 = .ok (.putfield 22, 3) := by decide +kernel
theorem dX7_init_28 : decode cX7_init 28 = .ok (.aload_n 0, 1) := by decide +kernel
theorem dX7_init_29 : decode cX7_init 29 = .ok (.iconst 3, 1) := by decide +kernel
theorem dX7_init_30 : decode cX7_init 30 = .ok (.newarray .int, 2) := by decide +kernel
theorem dX7_init_32 : decode cX7_init 32 = .ok (.putfield 25, 3) := by decide +kernel
theorem dX7_init_35 : decode cX7_init 35 = .ok (.aload_n 0, 1) := by decide +kernel
theorem dX7_init_36 : decode cX7_init 36 = .ok (.iconst 2, 1) := by decide +kernel
theorem dX7_init_37 : decode cX7_init 37 = .ok (.anewarray 29, 3) := by decide +kernel
theorem dX7_init_40 : decode cX7_init 40 = .ok (.dup, 1) := by decide +kernel
theorem dX7_init_41 : decode cX7_init 41 = .ok (.iconst 0, 1) := by decide +kernel
theorem dX7_init_42 : decode cX7_init 42 = .ok (.new 29, 3) := by decide +kernel
theorem dX7_init_45 : decode cX7_init 45 = .ok (.dup, 1) := by decide +kernel
theorem dX7_init_46 : decode cX7_init 46 = .ok (.invokespecial 31, 3) := by decide +kernel
theorem dX7_init_49 : decode cX7_init 49 = .ok (.aastore, 1) := by decide +kernel
theorem dX7_init_50 : decode cX7_init 50 = .ok (.dup, 1) := by decide +kernel
theorem dX7_init_51 : decode cX7_init 51 = .ok (.iconst 1, 1) := by decide +kernel
theorem dX7_init_52 : decode cX7_init 52 = .ok (.new 29, 3) := by decide +kernel
theorem dX7_init_55 : decode cX7_init 55 = .ok (.dup, 1) := by decide +kernel
theorem dX7_init_56 : decode cX7_init 56 = .ok (.invokespecial 31, 3) := by decide +kernel
theorem dX7_init_59 : decode cX7_init 59 = .ok (.aastore, 1) := by decide +kernel
theorem dX7_init_60 : decode cX7_init 60 = .ok (.putfield 32, 3) := by decide +kernel
theorem dX7_init_63 : decode cX7_init 63 = .ok (.aload_n 0, 1) := by decide +kernel
theorem dX7_init_64 : decode cX7_init 64 = .ok (.iconst 2, 1) := by decide +kernel
theorem dX7_init_65 : decode cX7_init 65 = .ok (.anewarray 36, 3) := by decide +kernel
theorem dX7_init_68 : decode cX7_init 68 = .ok (.dup, 1) := by decide +kernel
theorem dX7_init_69 : decode cX7_init 69 = .ok (.iconst 0, 1) := by decide +kernel
theorem dX7_init_70 : decode cX7_init 70 = .ok (.new 36, 3) := by decide +kernel
theorem dX7_init_73 : decode cX7_init 73 = .ok (.dup, 1) := by decide +kernel
theorem dX7_init_74 : decode cX7_init 74 = .ok (.bipush 40, 2) := by decide +kernel
theorem dX7_init_76 : decode cX7_init 76 = .ok (.invokespecial 38, 3) := by decide +kernel
theorem dX7_init_79 : decode cX7_init 79 = .ok (.aastore, 1) := by decide +kernel
theorem dX7_init_80 : decode cX7_init 80 = .ok (.dup, 1) := by decide +kernel
theorem dX7_init_81 : decode cX7_init 81 = .ok (.iconst 1, 1) := by decide +kernel
theorem dX7_init_82 : decode cX7_init 82 = .ok (.new 36, 3) := by decide +kernel
theorem dX7_init_85 : decode cX7_init 85 = .ok (.dup, 1) := by decide +kernel
theorem dX7_init_86 : decode cX7_init 86 = .ok (.bipush 40, 2) := by decide +kernel
theorem dX7_init_88 : decode cX7_init 88 = .ok (.invokespecial 38, 3) := by decide +kernel
theorem dX7_init_91 : decode cX7_init 91 = .ok (.aastore, 1) := by decide +kernel
theorem dX7_init_92 : decode cX7_init 92 = .ok (.putfield 41, 3) := by decide +kernel
theorem dX7_init_95 : decode cX7_init 95 = .ok (.aload_n 0, 1) := by decide +kernel
theorem dX7_init_96 : decode cX7_init 96 = .ok (.iconst 2, 1) := by decide +kernel
theorem dX7_init_97 : decode cX7_init 97 = .ok (.anewarray 36, 3) := by decide +kernel
theorem dX7_init_100 : decode cX7_init 100 = .ok (.dup, 1) := by decide +kernel
theorem dX7_init_101 : decode cX7_init 101 = .ok (.iconst 0, 1) := by decide +kernel
theorem dX7_init_102 : decode cX7_init 102 = .ok (.new 36, 3) := by decide +kernel
theorem dX7_init_105 : decode cX7_init 105 = .ok (.dup, 1) := by decide +kernel
theorem dX7_init_106 : decode cX7_init 106 = .ok (.bipush 8, 2) := by decide +kernel
theorem dX7_init_108 : decode cX7_init 108 = .ok (.invokespecial 38, 3) := by decide +kernel
theorem dX7_init_111 : decode cX7_init 111 = .ok (.aastore, 1) := by decide +kernel
theorem dX7_init_112 : decode cX7_init 112 = .ok (.dup, 1) := by decide +kernel
theorem dX7_init_113 : decode cX7_init 113 = .ok (.iconst 1, 1) := by decide +kernel
theorem dX7_init_114 : decode cX7_init 114 = .ok (.new 36, 3) := by decide +kernel
theorem dX7_init_117 : decode cX7_init 117 = .ok (.dup, 1) := by decide +kernel
theorem dX7_init_118 : decode cX7_init 118 = .ok (.bipush 8, 2) := by decide +kernel
theorem dX7_init_120 : decode cX7_init 120 = .ok (.invokespecial 38, 3) := by decide +kernel
theorem dX7_init_123 : decode cX7_init 123 = .ok (.aastore, 1) := by decide +kernel
theorem dX7_init_124 : decode cX7_init 124 = .ok (.putfield 45, 3) := by decide +kernel
theorem dX7_init_127 : decode cX7_init 127 = .ok (.return_, 1) := by decide +kernel
theorem dX0_init_0 : decode cX0_init 0 = .ok (.aload_n 0, 1) := by decide +kernel
theorem dX0_init_1 : decode cX0_init 1 = .ok (.invokespecial 3, 3) := by decide +kernel
theorem dX0_init_4 : decode cX0_init 4 = .ok (.aload_n 0, 1) := by decide +kernel
theorem dX0_init_5 : decode cX0_init 5 = .ok (.new 9, 3) := by decide +kernel
theorem dX0_init_8 : decode cX0_init 8 = .ok (.dup, 1) := by decide +kernel
theorem dX0_init_9 : decode cX0_init 9 = .ok (.invokespecial 11, 3) := by decide +kernel
theorem dX0_init_12 : decode cX0_init 12 = .ok (.putfield 12, 3) := by decide +kernel
theorem dX0_init_15 : decode cX0_init 15 = .ok (.aload_n 0, 1) := by decide +kernel
theorem dX0_init_16 : decode cX0_init 16 = .ok (.bipush 8, 2) := by decide +kernel
theorem dX0_init_18 : decode cX0_init 18 = .ok (.newarray .int, 2) := by decide +kernel
theorem dX0_init_20 : decode cX0_init 20 = .ok (.putfield 18, 3) := by decide +kernel
theorem dX0_init_23 : decode cX0_init 23 = .ok (.return_, 1) := by decide +kernel
theorem ac_int : Cond.arrayClass .int ∈ UW := (uw_t 122 (by decide +kernel) (by decide +kernel))
theorem ac_byte : Cond.arrayClass .byte ∈ UW := (uw_t 121 (by decide +kernel) (by decide +kernel))
theorem ac_boolean : Cond.arrayClass .boolean ∈ UW := (uw_t 235 (by decide +kernel) (by decide +kernel))
theorem fc_RX0_12 : Cond.fieldLink RX0 12 (TX0 0).1 (TX0 0).2.1 (TX0 0).2.2.1 ∈ UW := (uw_t 340 (by decide +kernel) (by decide +kernel))
theorem fc_RX0_18 : Cond.fieldLink RX0 18 (TX0 1).1 (TX0 1).2.1 (TX0 1).2.2.1 ∈ UW := (uw_t 341 (by decide +kernel) (by decide +kernel))
theorem fc_RX1_9 : Cond.fieldLink RX1 9 (TX1 0).1 (TX1 0).2.1 (TX1 0).2.2.1 ∈ UW := (uw_t 42 (by decide +kernel) (by decide +kernel))
theorem fc_RX1_15 : Cond.fieldLink RX1 15 (TX1 1).1 (TX1 1).2.1 (TX1 1).2.2.1 ∈ UW := (uw_t 48 (by decide +kernel) (by decide +kernel))
theorem fc_RX1_18 : Cond.fieldLink RX1 18 (TX1 2).1 (TX1 2).2.1 (TX1 2).2.2.1 ∈ UW := (uw_t 54 (by decide +kernel) (by decide +kernel))
theorem fc_RX1_21 : Cond.fieldLink RX1 21 (TX1 3).1 (TX1 3).2.1 (TX1 3).2.2.1 ∈ UW := (uw_t 59 (by decide +kernel) (by decide +kernel))
theorem fc_RX1_24 : Cond.fieldLink RX1 24 (TX1 4).1 (TX1 4).2.1 (TX1 4).2.2.1 ∈ UW := (uw_t 63 (by decide +kernel) (by decide +kernel))
theorem fc_RX1_27 : Cond.fieldLink RX1 27 (TX1 5).1 (TX1 5).2.1 (TX1 5).2.2.1 ∈ UW := (uw_t 67 (by decide +kernel) (by decide +kernel))
theorem fc_RX1_31 : Cond.fieldLink RX1 31 (TX1 6).1 (TX1 6).2.1 (TX1 6).2.2.1 ∈ UW := (uw_t 69 (by decide +kernel) (by decide +kernel))
theorem fc_RX1_34 : Cond.fieldLink RX1 34 (TX1 7).1 (TX1 7).2.1 (TX1 7).2.2.1 ∈ UW := (uw_t 71 (by decide +kernel) (by decide +kernel))
theorem fc_RX1_37 : Cond.fieldLink RX1 37 (TX1 8).1 (TX1 8).2.1 (TX1 8).2.2.1 ∈ UW := (uw_t 75 (by decide +kernel) (by decide +kernel))
theorem fc_RX1_40 : Cond.fieldLink RX1 40 (TX1 9).1 (TX1 9).2.1 (TX1 9).2.2.1 ∈ UW := (uw_t 79 (by decide +kernel) (by decide +kernel))
theorem fc_RX1_43 : Cond.fieldLink RX1 43 (TX1 10).1 (TX1 10).2.1 (TX1 10).2.2.1 ∈ UW := (uw_t 85 (by decide +kernel) (by decide +kernel))
theorem fc_RX1_46 : Cond.fieldLink RX1 46 (TX1 11).1 (TX1 11).2.1 (TX1 11).2.2.1 ∈ UW := (uw_t 87 (by decide +kernel) (by decide +kernel))
theorem fc_RX1_49 : Cond.fieldLink RX1 49 (TX1 12).1 (TX1 12).2.1 (TX1 12).2.2.1 ∈ UW := (uw_t 88 (by decide +kernel) (by decide +kernel))
theorem fc_RX1_52 : Cond.fieldLink RX1 52 (TX1 13).1 (TX1 13).2.1 (TX1 13).2.2.1 ∈ UW := (uw_t 89 (by decide +kernel) (by decide +kernel))
theorem fc_RX6_7 : Cond.fieldLink RX6 7 (TX6 3).1 (TX6 3).2.1 (TX6 3).2.2.1 ∈ UW := (uw_t 142 (by decide +kernel) (by decide +kernel))
theorem fc_RX6_19 : Cond.fieldLink RX6 19 (TX6 0).1 (TX6 0).2.1 (TX6 0).2.2.1 ∈ UW := (uw_t 133 (by decide +kernel) (by decide +kernel))
theorem fc_RX6_22 : Cond.fieldLink RX6 22 (TX6 1).1 (TX6 1).2.1 (TX6 1).2.2.1 ∈ UW := (uw_t 134 (by decide +kernel) (by decide +kernel))
theorem fc_RX6_26 : Cond.fieldLink RX6 26 (TX6 2).1 (TX6 2).2.1 (TX6 2).2.2.1 ∈ UW := (uw_t 138 (by decide +kernel) (by decide +kernel))
theorem fc_RX7_9 : Cond.fieldLink RX7 9 (TX7 0).1 (TX7 0).2.1 (TX7 0).2.2.1 ∈ UW := (uw_t 156 (by decide +kernel) (by decide +kernel))
theorem fc_RX7_15 : Cond.fieldLink RX7 15 (TX7 1).1 (TX7 1).2.1 (TX7 1).2.2.1 ∈ UW := (uw_t 158 (by decide +kernel) (by decide +kernel))
theorem fc_RX7_19 : Cond.fieldLink RX7 19 (TX7 2).1 (TX7 2).2.1 (TX7 2).2.2.1 ∈ UW := (uw_t 160 (by decide +kernel) (by decide +kernel))
theorem fc_RX7_22 : Cond.fieldLink RX7 22 (TX7 3).1 (TX7 3).2.1 (TX7 3).2.2.1 ∈ UW := (uw_t 162 (by decide +kernel) (by decide +kernel))
theorem fc_RX7_25 : Cond.fieldLink RX7 25 (TX7 4).1 (TX7 4).2.1 (TX7 4).2.2.1 ∈ UW := (uw_t 164 (by decide +kernel) (by decide +kernel))
theorem fc_RX7_32 : Cond.fieldLink RX7 32 (TX7 5).1 (TX7 5).2.1 (TX7 5).2.2.1 ∈ UW := (uw_t 166 (by decide +kernel) (by decide +kernel))
theorem fc_RX7_41 : Cond.fieldLink RX7 41 (TX7 6).1 (TX7 6).2.1 (TX7 6).2.2.1 ∈ UW := (uw_t 167 (by decide +kernel) (by decide +kernel))
theorem fc_RX7_45 : Cond.fieldLink RX7 45 (TX7 7).1 (TX7 7).2.1 (TX7 7).2.2.1 ∈ UW := (uw_t 168 (by decide +kernel) (by decide +kernel))
theorem na_RX7_29 : Cond.classLink RX7 29 RX1 ∈ UW := (uw_t 35 (by decide +kernel) (by decide +kernel))
theorem na_RX7_36 : Cond.classLink RX7 36 RX6 ∈ UW := (uw_t 123 (by decide +kernel) (by decide +kernel))
theorem nw_RX0_9 : Cond.classLink RX0 9 RX1 ∈ UW ∧ Cond.instantiable RX1 14 ∈ UW ∧ Cond.initialized RX1 ∈ UW := ⟨(uw_t 338 (by decide +kernel) (by decide +kernel)), (uw_t 37 (by decide +kernel) (by decide +kernel)), (uw_t 3 (by decide +kernel) (by decide +kernel))⟩
theorem nw_RX7_29 : Cond.classLink RX7 29 RX1 ∈ UW ∧ Cond.instantiable RX1 14 ∈ UW ∧ Cond.initialized RX1 ∈ UW := ⟨(uw_t 35 (by decide +kernel) (by decide +kernel)), (uw_t 37 (by decide +kernel) (by decide +kernel)), (uw_t 3 (by decide +kernel) (by decide +kernel))⟩
theorem nw_RX7_36 : Cond.classLink RX7 36 RX6 ∈ UW ∧ Cond.instantiable RX6 4 ∈ UW ∧ Cond.initialized RX6 ∈ UW := ⟨(uw_t 123 (by decide +kernel) (by decide +kernel)), (uw_t 125 (by decide +kernel) (by decide +kernel)), (uw_t 4 (by decide +kernel) (by decide +kernel))⟩
theorem oi_RX0 : Cond.methodLink RX0 3 Lib.objectInit ∈ UW ∧ Cond.instanceMethod Lib.objectInit ∈ UW ∧ Cond.code Lib.objectInit ⟨#[0xb1]⟩ 1 none ∈ UW := ⟨(uw_t 337 (by decide +kernel) (by decide +kernel)), (uw_t 27 (by decide +kernel) (by decide +kernel)), (uw_t 28 (by decide +kernel) (by decide +kernel))⟩
theorem oi_RX1 : Cond.methodLink RX1 3 Lib.objectInit ∈ UW ∧ Cond.instanceMethod Lib.objectInit ∈ UW ∧ Cond.code Lib.objectInit ⟨#[0xb1]⟩ 1 none ∈ UW := ⟨(uw_t 41 (by decide +kernel) (by decide +kernel)), (uw_t 27 (by decide +kernel) (by decide +kernel)), (uw_t 28 (by decide +kernel) (by decide +kernel))⟩
theorem oi_RX6 : Cond.methodLink RX6 1 Lib.objectInit ∈ UW ∧ Cond.instanceMethod Lib.objectInit ∈ UW ∧ Cond.code Lib.objectInit ⟨#[0xb1]⟩ 1 none ∈ UW := ⟨(uw_t 129 (by decide +kernel) (by decide +kernel)), (uw_t 27 (by decide +kernel) (by decide +kernel)), (uw_t 28 (by decide +kernel) (by decide +kernel))⟩
theorem oi_RX7 : Cond.methodLink RX7 3 Lib.objectInit ∈ UW ∧ Cond.instanceMethod Lib.objectInit ∈ UW ∧ Cond.code Lib.objectInit ⟨#[0xb1]⟩ 1 none ∈ UW := ⟨(uw_t 34 (by decide +kernel) (by decide +kernel)), (uw_t 27 (by decide +kernel) (by decide +kernel)), (uw_t 28 (by decide +kernel) (by decide +kernel))⟩
theorem mi_RX0_11 : MI RX0 11 yX1_init cX1_init 1 0 := ⟨⟨Or.inl (by decide +kernel), (uw_t 39 (by decide +kernel) (by decide +kernel)), (uw_t 3 (by decide +kernel) (by decide +kernel)), (uw_t 40 (by decide +kernel) (by decide +kernel))⟩, by decide +kernel⟩
theorem mi_RX7_31 : MI RX7 31 yX1_init cX1_init 1 0 := ⟨⟨Or.inl (by decide +kernel), (uw_t 39 (by decide +kernel) (by decide +kernel)), (uw_t 3 (by decide +kernel) (by decide +kernel)), (uw_t 40 (by decide +kernel) (by decide +kernel))⟩, by decide +kernel⟩
theorem mi_RX7_38 : MI RX7 38 yX6_init cX6_init 2 1 := ⟨⟨Or.inr (uw_t 126 (by decide +kernel) (by decide +kernel)), (uw_t 127 (by decide +kernel) (by decide +kernel)), (uw_t 4 (by decide +kernel) (by decide +kernel)), (uw_t 128 (by decide +kernel) (by decide +kernel))⟩, by decide +kernel⟩
theorem mm_RX6_13 : MM RX6 13 Lib.Math.max.name Lib.Math.max.code 2 := ⟨(uw_t 130 (by decide +kernel) (by decide +kernel)), (uw_t 131 (by decide +kernel) (by decide +kernel)), (uw_t 5 (by decide +kernel) (by decide +kernel)), (uw_t 132 (by decide +kernel) (by decide +kernel))⟩
set_option maxRecDepth 8000 in
set_option maxHeartbeats 4000000 in
theorem X1_init_n {l : Launch} {G : GT} {b k : Nat} {F : Nat → va_E} (hs : sh k = 1) (hF : F k = .inr (1, [.int 0, .int 0, .int 0, .int 0, .int 0, .null, .null, .null, .null, .null, .null, .null, .null, .null])) : CN l G yX1_init cX1_init 1 1 20 9 59 [.ref (ad G k)] b k F (k + 9) (FN G k F) := by
  have hk0 : 0 < k := sh_pos (by omega)
  have hkn : k + 9 < NN := by have := (by decide +kernel : ∀ k, k < 257 → sh k = 1 → k + 9 < 257) k (sh_lt (by omega)) hs; exact this
  have hNN : NN = 257 := rfl
  have s1 : sh (k + 1) = 13 := (by decide +kernel : ∀ k, k < 257 → sh k = 1 → sh (k + 1) = 13) k (sh_lt (by omega)) hs
  have l1 : ln (k + 1) = 6 := (by decide +kernel : ∀ k, k < 257 → sh k = 1 → ln (k + 1) = 6) k (sh_lt (by omega)) hs
  have s2 : sh (k + 2) = 13 := (by decide +kernel : ∀ k, k < 257 → sh k = 1 → sh (k + 2) = 13) k (sh_lt (by omega)) hs
  have l2 : ln (k + 2) = 6 := (by decide +kernel : ∀ k, k < 257 → sh k = 1 → ln (k + 2) = 6) k (sh_lt (by omega)) hs
  have s3 : sh (k + 3) = 13 := (by decide +kernel : ∀ k, k < 257 → sh k = 1 → sh (k + 3) = 13) k (sh_lt (by omega)) hs
  have l3 : ln (k + 3) = 8 := (by decide +kernel : ∀ k, k < 257 → sh k = 1 → ln (k + 3) = 8) k (sh_lt (by omega)) hs
  have s4 : sh (k + 4) = 13 := (by decide +kernel : ∀ k, k < 257 → sh k = 1 → sh (k + 4) = 13) k (sh_lt (by omega)) hs
  have l4 : ln (k + 4) = 8 := (by decide +kernel : ∀ k, k < 257 → sh k = 1 → ln (k + 4) = 8) k (sh_lt (by omega)) hs
  have s5 : sh (k + 5) = 13 := (by decide +kernel : ∀ k, k < 257 → sh k = 1 → sh (k + 5) = 13) k (sh_lt (by omega)) hs
  have l5 : ln (k + 5) = 8 := (by decide +kernel : ∀ k, k < 257 → sh k = 1 → ln (k + 5) = 8) k (sh_lt (by omega)) hs
  have s6 : sh (k + 6) = 13 := (by decide +kernel : ∀ k, k < 257 → sh k = 1 → sh (k + 6) = 13) k (sh_lt (by omega)) hs
  have l6 : ln (k + 6) = 8 := (by decide +kernel : ∀ k, k < 257 → sh k = 1 → ln (k + 6) = 8) k (sh_lt (by omega)) hs
  have s7 : sh (k + 7) = 13 := (by decide +kernel : ∀ k, k < 257 → sh k = 1 → sh (k + 7) = 13) k (sh_lt (by omega)) hs
  have l7 : ln (k + 7) = 5 := (by decide +kernel : ∀ k, k < 257 → sh k = 1 → ln (k + 7) = 5) k (sh_lt (by omega)) hs
  have s8 : sh (k + 8) = 13 := (by decide +kernel : ∀ k, k < 257 → sh k = 1 → sh (k + 8) = 13) k (sh_lt (by omega)) hs
  have l8 : ln (k + 8) = 5 := (by decide +kernel : ∀ k, k < 257 → sh k = 1 → ln (k + 8) = 5) k (sh_lt (by omega)) hs
  have s9 : sh (k + 9) = 13 := (by decide +kernel : ∀ k, k < 257 → sh k = 1 → sh (k + 9) = 13) k (sh_lt (by omega)) hs
  have l9 : ln (k + 9) = 5 := (by decide +kernel : ∀ k, k < 257 → sh k = 1 → ln (k + 9) = 5) k (sh_lt (by omega)) hs
  refine CN.of (by decide) (Nat.le_of_ble_eq_true rfl) ?_
  intro p e s m below meth c ls E hr hlk hin w hl
  have hl : lv_has ls 1 [(0, .ref (ad G k))] := hl
  have w := r_start w hF
  refine lv_aload_n E.1 E.2.1 dX1_init_0 rfl (lv_at hl 0 rfl) ?_
  refine c_objInit E oi_RX1 hl.1 ⟨Nat.le_of_ble_eq_true rfl, Nat.le_of_ble_eq_true rfl⟩ dX1_init_1 ?_
  refine lv_aload_n E.1 E.2.1 dX1_init_4 rfl (lv_at hl 0 rfl) ?_
  refine lv_iconst (v := 0) E.1 E.2.1 dX1_init_5 rfl ?_
  refine c_put (v := .int 0) (k := 0) (ci := 1) (ty0 := tyX1) E w ⟨by omega, by omega⟩ (RT_k G k 1 F _) rfl uwX1 tyX1_ok nmX1 (by decide) fc_RX1_9 (Or.inl rfl) rfl rfl (Nat.le_of_ble_eq_true rfl) dX1_init_6 (fun H locs w => ?_)
  have w : CW G b s (k) (RT G k 1 F [.int 0, .int 0, .int 0, .int 0, .int 0, .null, .null, .null, .null, .null, .null, .null, .null, .null]) H locs := r_put w
  refine lv_aload_n E.1 E.2.1 dX1_init_9 rfl (lv_at hl 0 rfl) ?_
  refine lv_iconst (v := 0) E.1 E.2.1 dX1_init_10 rfl ?_
  refine c_put (v := .int 0) (k := 1) (ci := 1) (ty0 := tyX1) E w ⟨by omega, by omega⟩ (RT_k G k 1 F _) rfl uwX1 tyX1_ok nmX1 (by decide) fc_RX1_15 (Or.inl rfl) rfl rfl (Nat.le_of_ble_eq_true rfl) dX1_init_11 (fun H locs w => ?_)
  have w : CW G b s (k) (RT G k 1 F [.int 0, .int 0, .int 0, .int 0, .int 0, .null, .null, .null, .null, .null, .null, .null, .null, .null]) H locs := r_put w
  refine lv_aload_n E.1 E.2.1 dX1_init_14 rfl (lv_at hl 0 rfl) ?_
  refine lv_iconst (v := 0) E.1 E.2.1 dX1_init_15 rfl ?_
  refine c_put (v := .int 0) (k := 2) (ci := 1) (ty0 := tyX1) E w ⟨by omega, by omega⟩ (RT_k G k 1 F _) rfl uwX1 tyX1_ok nmX1 (by decide) fc_RX1_18 (Or.inl rfl) rfl rfl (Nat.le_of_ble_eq_true rfl) dX1_init_16 (fun H locs w => ?_)
  have w : CW G b s (k) (RT G k 1 F [.int 0, .int 0, .int 0, .int 0, .int 0, .null, .null, .null, .null, .null, .null, .null, .null, .null]) H locs := r_put w
  refine lv_aload_n E.1 E.2.1 dX1_init_19 rfl (lv_at hl 0 rfl) ?_
  refine lv_bipush (v := 9) E.1 E.2.1 dX1_init_20 rfl ?_
  refine c_put (v := .int 9) (k := 3) (ci := 1) (ty0 := tyX1) E w ⟨by omega, by omega⟩ (RT_k G k 1 F _) rfl uwX1 tyX1_ok nmX1 (by decide) fc_RX1_21 (Or.inl rfl) rfl rfl (Nat.le_of_ble_eq_true rfl) dX1_init_22 (fun H locs w => ?_)
  have w : CW G b s (k) (RT G k 1 F [.int 0, .int 0, .int 0, .int 9, .int 0, .null, .null, .null, .null, .null, .null, .null, .null, .null]) H locs := r_put w
  refine lv_aload_n E.1 E.2.1 dX1_init_25 rfl (lv_at hl 0 rfl) ?_
  refine lv_iconst (v := 0) E.1 E.2.1 dX1_init_26 rfl ?_
  refine c_put (v := .int 0) (k := 4) (ci := 1) (ty0 := tyX1) E w ⟨by omega, by omega⟩ (RT_k G k 1 F _) rfl uwX1 tyX1_ok nmX1 (by decide) fc_RX1_24 (Or.inl rfl) rfl rfl (Nat.le_of_ble_eq_true rfl) dX1_init_27 (fun H locs w => ?_)
  have w : CW G b s (k) (RT G k 1 F [.int 0, .int 0, .int 0, .int 9, .int 0, .null, .null, .null, .null, .null, .null, .null, .null, .null]) H locs := r_put w
  refine lv_aload_n E.1 E.2.1 dX1_init_30 rfl (lv_at hl 0 rfl) ?_
  refine lv_bipush (v := 6) E.1 E.2.1 dX1_init_31 rfl ?_
  refine c_arr (atype := .int) (ty := .int) (kd := 13) (t0 := 1) E w rfl rfl (fun z => z) rfl (by show k + 1 < NN; omega) ac_int (x := 6) (L := 6) (by decide) (by decide) (by decide) (Nat.le_of_ble_eq_true rfl) (Nat.le_of_ble_eq_true rfl) dX1_init_33 (fun H w => ?_)
  have w := r_cell (by omega) w (cell_arr G s1 (by decide) (by intro z; have z2 : k = 237 := (by omega); subst z2; exact absurd hs (by decide)) l1)
  refine c_put (v := .ref (ad G (k + 1))) (k := 5) (ci := 1) (ty0 := tyX1) E w ⟨by omega, by omega⟩ (RT_k G k 1 F _) rfl uwX1 tyX1_ok nmX1 (by decide) fc_RX1_27 (Or.inr ⟨rfl, hin, rfl⟩) rfl rfl (Nat.le_of_ble_eq_true rfl) dX1_init_35 (fun H locs w => ?_)
  have w : CW G b s (k + 1) (RT G k 1 F [.int 0, .int 0, .int 0, .int 9, .int 0, .ref (ad G (k + 1)), .null, .null, .null, .null, .null, .null, .null, .null]) H locs := r_put w
  refine lv_aload_n E.1 E.2.1 dX1_init_38 rfl (lv_at hl 0 rfl) ?_
  refine lv_bipush (v := 6) E.1 E.2.1 dX1_init_39 rfl ?_
  refine c_arr (atype := .int) (ty := .int) (kd := 13) (t0 := 1) E w rfl rfl (fun z => z) rfl (by show k + 2 < NN; omega) ac_int (x := 6) (L := 6) (by decide) (by decide) (by decide) (Nat.le_of_ble_eq_true rfl) (Nat.le_of_ble_eq_true rfl) dX1_init_41 (fun H w => ?_)
  have w := r_cell (by omega) w (cell_arr G s2 (by decide) (by intro z; have z2 : k = 236 := (by omega); subst z2; exact absurd hs (by decide)) l2)
  refine c_put (v := .ref (ad G (k + 2))) (k := 6) (ci := 1) (ty0 := tyX1) E w ⟨by omega, by omega⟩ (RT_k G k 1 F _) rfl uwX1 tyX1_ok nmX1 (by decide) fc_RX1_31 (Or.inr ⟨rfl, hin, rfl⟩) rfl rfl (Nat.le_of_ble_eq_true rfl) dX1_init_43 (fun H locs w => ?_)
  have w : CW G b s (k + 2) (RT G k 1 F [.int 0, .int 0, .int 0, .int 9, .int 0, .ref (ad G (k + 1)), .ref (ad G (k + 2)), .null, .null, .null, .null, .null, .null, .null]) H locs := r_put w
  refine lv_aload_n E.1 E.2.1 dX1_init_46 rfl (lv_at hl 0 rfl) ?_
  refine lv_bipush (v := 8) E.1 E.2.1 dX1_init_47 rfl ?_
  refine c_arr (atype := .int) (ty := .int) (kd := 13) (t0 := 1) E w rfl rfl (fun z => z) rfl (by show k + 3 < NN; omega) ac_int (x := 8) (L := 8) (by decide) (by decide) (by decide) (Nat.le_of_ble_eq_true rfl) (Nat.le_of_ble_eq_true rfl) dX1_init_49 (fun H w => ?_)
  have w := r_cell (by omega) w (cell_arr G s3 (by decide) (by intro z; have z2 : k = 235 := (by omega); subst z2; exact absurd hs (by decide)) l3)
  refine c_put (v := .ref (ad G (k + 3))) (k := 7) (ci := 1) (ty0 := tyX1) E w ⟨by omega, by omega⟩ (RT_k G k 1 F _) rfl uwX1 tyX1_ok nmX1 (by decide) fc_RX1_34 (Or.inr ⟨rfl, hin, rfl⟩) rfl rfl (Nat.le_of_ble_eq_true rfl) dX1_init_51 (fun H locs w => ?_)
  have w : CW G b s (k + 3) (RT G k 1 F [.int 0, .int 0, .int 0, .int 9, .int 0, .ref (ad G (k + 1)), .ref (ad G (k + 2)), .ref (ad G (k + 3)), .null, .null, .null, .null, .null, .null]) H locs := r_put w
  refine lv_aload_n E.1 E.2.1 dX1_init_54 rfl (lv_at hl 0 rfl) ?_
  refine lv_bipush (v := 8) E.1 E.2.1 dX1_init_55 rfl ?_
  refine c_arr (atype := .int) (ty := .int) (kd := 13) (t0 := 1) E w rfl rfl (fun z => z) rfl (by show k + 4 < NN; omega) ac_int (x := 8) (L := 8) (by decide) (by decide) (by decide) (Nat.le_of_ble_eq_true rfl) (Nat.le_of_ble_eq_true rfl) dX1_init_57 (fun H w => ?_)
  have w := r_cell (by omega) w (cell_arr G s4 (by decide) (by intro z; have z2 : k = 234 := (by omega); subst z2; exact absurd hs (by decide)) l4)
  refine c_put (v := .ref (ad G (k + 4))) (k := 8) (ci := 1) (ty0 := tyX1) E w ⟨by omega, by omega⟩ (RT_k G k 1 F _) rfl uwX1 tyX1_ok nmX1 (by decide) fc_RX1_37 (Or.inr ⟨rfl, hin, rfl⟩) rfl rfl (Nat.le_of_ble_eq_true rfl) dX1_init_59 (fun H locs w => ?_)
  have w : CW G b s (k + 4) (RT G k 1 F [.int 0, .int 0, .int 0, .int 9, .int 0, .ref (ad G (k + 1)), .ref (ad G (k + 2)), .ref (ad G (k + 3)), .ref (ad G (k + 4)), .null, .null, .null, .null, .null]) H locs := r_put w
  refine lv_aload_n E.1 E.2.1 dX1_init_62 rfl (lv_at hl 0 rfl) ?_
  refine lv_bipush (v := 8) E.1 E.2.1 dX1_init_63 rfl ?_
  refine c_arr (atype := .int) (ty := .int) (kd := 13) (t0 := 1) E w rfl rfl (fun z => z) rfl (by show k + 5 < NN; omega) ac_int (x := 8) (L := 8) (by decide) (by decide) (by decide) (Nat.le_of_ble_eq_true rfl) (Nat.le_of_ble_eq_true rfl) dX1_init_65 (fun H w => ?_)
  have w := r_cell (by omega) w (cell_arr G s5 (by decide) (by intro z; have z2 : k = 233 := (by omega); subst z2; exact absurd hs (by decide)) l5)
  refine c_put (v := .ref (ad G (k + 5))) (k := 9) (ci := 1) (ty0 := tyX1) E w ⟨by omega, by omega⟩ (RT_k G k 1 F _) rfl uwX1 tyX1_ok nmX1 (by decide) fc_RX1_40 (Or.inr ⟨rfl, hin, rfl⟩) rfl rfl (Nat.le_of_ble_eq_true rfl) dX1_init_67 (fun H locs w => ?_)
  have w : CW G b s (k + 5) (RT G k 1 F [.int 0, .int 0, .int 0, .int 9, .int 0, .ref (ad G (k + 1)), .ref (ad G (k + 2)), .ref (ad G (k + 3)), .ref (ad G (k + 4)), .ref (ad G (k + 5)), .null, .null, .null, .null]) H locs := r_put w
  refine lv_aload_n E.1 E.2.1 dX1_init_70 rfl (lv_at hl 0 rfl) ?_
  refine lv_bipush (v := 8) E.1 E.2.1 dX1_init_71 rfl ?_
  refine c_arr (atype := .int) (ty := .int) (kd := 13) (t0 := 1) E w rfl rfl (fun z => z) rfl (by show k + 6 < NN; omega) ac_int (x := 8) (L := 8) (by decide) (by decide) (by decide) (Nat.le_of_ble_eq_true rfl) (Nat.le_of_ble_eq_true rfl) dX1_init_73 (fun H w => ?_)
  have w := r_cell (by omega) w (cell_arr G s6 (by decide) (by intro z; have z2 : k = 232 := (by omega); subst z2; exact absurd hs (by decide)) l6)
  refine c_put (v := .ref (ad G (k + 6))) (k := 10) (ci := 1) (ty0 := tyX1) E w ⟨by omega, by omega⟩ (RT_k G k 1 F _) rfl uwX1 tyX1_ok nmX1 (by decide) fc_RX1_43 (Or.inr ⟨rfl, hin, rfl⟩) rfl rfl (Nat.le_of_ble_eq_true rfl) dX1_init_75 (fun H locs w => ?_)
  have w : CW G b s (k + 6) (RT G k 1 F [.int 0, .int 0, .int 0, .int 9, .int 0, .ref (ad G (k + 1)), .ref (ad G (k + 2)), .ref (ad G (k + 3)), .ref (ad G (k + 4)), .ref (ad G (k + 5)), .ref (ad G (k + 6)), .null, .null, .null]) H locs := r_put w
  refine lv_aload_n E.1 E.2.1 dX1_init_78 rfl (lv_at hl 0 rfl) ?_
  refine lv_iconst (v := 5) E.1 E.2.1 dX1_init_79 rfl ?_
  refine c_arr (atype := .int) (ty := .int) (kd := 13) (t0 := 1) E w rfl rfl (fun z => z) rfl (by show k + 7 < NN; omega) ac_int (x := 5) (L := 5) (by decide) (by decide) (by decide) (Nat.le_of_ble_eq_true rfl) (Nat.le_of_ble_eq_true rfl) dX1_init_80 (fun H w => ?_)
  have w := r_cell (by omega) w (cell_arr G s7 (by decide) (by intro z; have z2 : k = 231 := (by omega); subst z2; exact absurd hs (by decide)) l7)
  refine c_put (v := .ref (ad G (k + 7))) (k := 11) (ci := 1) (ty0 := tyX1) E w ⟨by omega, by omega⟩ (RT_k G k 1 F _) rfl uwX1 tyX1_ok nmX1 (by decide) fc_RX1_46 (Or.inr ⟨rfl, hin, rfl⟩) rfl rfl (Nat.le_of_ble_eq_true rfl) dX1_init_82 (fun H locs w => ?_)
  have w : CW G b s (k + 7) (RT G k 1 F [.int 0, .int 0, .int 0, .int 9, .int 0, .ref (ad G (k + 1)), .ref (ad G (k + 2)), .ref (ad G (k + 3)), .ref (ad G (k + 4)), .ref (ad G (k + 5)), .ref (ad G (k + 6)), .ref (ad G (k + 7)), .null, .null]) H locs := r_put w
  refine lv_aload_n E.1 E.2.1 dX1_init_85 rfl (lv_at hl 0 rfl) ?_
  refine lv_iconst (v := 5) E.1 E.2.1 dX1_init_86 rfl ?_
  refine c_arr (atype := .int) (ty := .int) (kd := 13) (t0 := 1) E w rfl rfl (fun z => z) rfl (by show k + 8 < NN; omega) ac_int (x := 5) (L := 5) (by decide) (by decide) (by decide) (Nat.le_of_ble_eq_true rfl) (Nat.le_of_ble_eq_true rfl) dX1_init_87 (fun H w => ?_)
  have w := r_cell (by omega) w (cell_arr G s8 (by decide) (by intro z; have z2 : k = 230 := (by omega); subst z2; exact absurd hs (by decide)) l8)
  refine c_put (v := .ref (ad G (k + 8))) (k := 12) (ci := 1) (ty0 := tyX1) E w ⟨by omega, by omega⟩ (RT_k G k 1 F _) rfl uwX1 tyX1_ok nmX1 (by decide) fc_RX1_49 (Or.inr ⟨rfl, hin, rfl⟩) rfl rfl (Nat.le_of_ble_eq_true rfl) dX1_init_89 (fun H locs w => ?_)
  have w : CW G b s (k + 8) (RT G k 1 F [.int 0, .int 0, .int 0, .int 9, .int 0, .ref (ad G (k + 1)), .ref (ad G (k + 2)), .ref (ad G (k + 3)), .ref (ad G (k + 4)), .ref (ad G (k + 5)), .ref (ad G (k + 6)), .ref (ad G (k + 7)), .ref (ad G (k + 8)), .null]) H locs := r_put w
  refine lv_aload_n E.1 E.2.1 dX1_init_92 rfl (lv_at hl 0 rfl) ?_
  refine lv_iconst (v := 5) E.1 E.2.1 dX1_init_93 rfl ?_
  refine c_arr (atype := .int) (ty := .int) (kd := 13) (t0 := 1) E w rfl rfl (fun z => z) rfl (by show k + 9 < NN; omega) ac_int (x := 5) (L := 5) (by decide) (by decide) (by decide) (Nat.le_of_ble_eq_true rfl) (Nat.le_of_ble_eq_true rfl) dX1_init_94 (fun H w => ?_)
  have w := r_cell (by omega) w (cell_arr G s9 (by decide) (by intro z; have z2 : k = 229 := (by omega); subst z2; exact absurd hs (by decide)) l9)
  refine c_put (v := .ref (ad G (k + 9))) (k := 13) (ci := 1) (ty0 := tyX1) E w ⟨by omega, by omega⟩ (RT_k G k 1 F _) rfl uwX1 tyX1_ok nmX1 (by decide) fc_RX1_52 (Or.inr ⟨rfl, hin, rfl⟩) rfl rfl (Nat.le_of_ble_eq_true rfl) dX1_init_96 (fun H locs w => ?_)
  have w : CW G b s (k + 9) (RT G k 1 F [.int 0, .int 0, .int 0, .int 9, .int 0, .ref (ad G (k + 1)), .ref (ad G (k + 2)), .ref (ad G (k + 3)), .ref (ad G (k + 4)), .ref (ad G (k + 5)), .ref (ad G (k + 6)), .ref (ad G (k + 7)), .ref (ad G (k + 8)), .ref (ad G (k + 9))]) H locs := r_put w
  have w := r_end w hs (by decide) (by
    have e : fsO G hI k 1 = [.int 0, .int 0, .int 0, .int 9, .int 0, .ref (ad G (k + 1)), .ref (ad G (k + 2)), .ref (ad G (k + 3)), .ref (ad G (k + 4)), .ref (ad G (k + 5)), .ref (ad G (k + 6)), .ref (ad G (k + 7)), .ref (ad G (k + 8)), .ref (ad G (k + 9))] := by
      simp [fsO, fk, fkL, fv, hI, hs, iniL, rfv]
    exact e)
  exact c_vret E w hr hlk dX1_init_99
set_option maxRecDepth 8000 in
set_option maxHeartbeats 4000000 in
theorem X6_init_40_n {l : Launch} {G : GT} {b k : Nat} {F : Nat → va_E} (hs : sh k = 6) (hL : ln (k + 1) = 40 ∧ ln (k + 2) = 40) (hF : F k = .inr (6, [.int 0, .null, .null, .int 0])) : CN l G yX6_init cX6_init 2 1 24 2 80 [.ref (ad G k), .int 40] b k F (k + 2) (FN G k F) := by
  have hk0 : 0 < k := sh_pos (by omega)
  have hkn : k + 2 < NN := by have := (by decide +kernel : ∀ k, k < 257 → sh k = 6 → k + 2 < 257) k (sh_lt (by omega)) hs; exact this
  have hNN : NN = 257 := rfl
  have s1 : sh (k + 1) = 13 := (by decide +kernel : ∀ k, k < 257 → sh k = 6 → sh (k + 1) = 13) k (sh_lt (by omega)) hs
  have s2 : sh (k + 2) = 13 := (by decide +kernel : ∀ k, k < 257 → sh k = 6 → sh (k + 2) = 13) k (sh_lt (by omega)) hs
  obtain ⟨l1, l2⟩ := hL
  refine CN.of (by decide) (Nat.le_of_ble_eq_true rfl) ?_
  intro p e s m below meth c ls E hr hlk hin w hl
  have hl : lv_has ls 2 [(0, .ref (ad G k)), (1, .int 40)] := hl
  have w := r_start w hF
  refine lv_aload_n E.1 E.2.1 dX6_init_0 rfl (lv_at hl 0 rfl) ?_
  refine c_objInit E oi_RX6 hl.1 ⟨Nat.le_of_ble_eq_true rfl, Nat.le_of_ble_eq_true rfl⟩ dX6_init_1 ?_
  refine lv_aload_n E.1 E.2.1 dX6_init_4 rfl (lv_at hl 0 rfl) ?_
  refine lv_iconst (v := 0) E.1 E.2.1 dX6_init_5 rfl ?_
  refine c_put (v := .int 0) (k := 3) (ci := 6) (ty0 := tyX6) E w ⟨by omega, by omega⟩ (RT_k G k 6 F _) rfl uwX6 tyX6_ok nmX6 (by decide) fc_RX6_7 (Or.inl rfl) rfl rfl (Nat.le_of_ble_eq_true rfl) dX6_init_6 (fun H locs w => ?_)
  have w : CW G b s (k) (RT G k 6 F [.int 0, .null, .null, .int 0]) H locs := r_put w
  refine lv_aload_n E.1 E.2.1 dX6_init_9 rfl (lv_at hl 0 rfl) ?_
  refine lv_iconst (v := 0) E.1 E.2.1 dX6_init_10 rfl ?_
  refine lv_iload_n E.1 E.2.1 dX6_init_11 rfl (lv_at hl 1 rfl) ?_
  refine q_max E mm_RX6_13 hl.1 ⟨Nat.le_of_ble_eq_true rfl, Nat.le_of_ble_eq_true rfl⟩ ⟨Nat.le_of_ble_eq_true rfl, Nat.le_of_ble_eq_true rfl⟩ dX6_init_12 ?_
  rw [show (if (0 : Int32) < 40 then (40 : Int32) else 0) = 40 from rfl]
  refine c_put (v := .int 40) (k := 0) (ci := 6) (ty0 := tyX6) E w ⟨by omega, by omega⟩ (RT_k G k 6 F _) rfl uwX6 tyX6_ok nmX6 (by decide) fc_RX6_19 (Or.inr ⟨rfl, hin, rfl⟩) rfl rfl (Nat.le_of_ble_eq_true rfl) dX6_init_15 (fun H locs w => ?_)
  have w : CW G b s (k) (RT G k 6 F [.int 40, .null, .null, .int 0]) H locs := r_put w
  refine lv_aload_n E.1 E.2.1 dX6_init_18 rfl (lv_at hl 0 rfl) ?_
  refine lv_aload_n E.1 E.2.1 dX6_init_19 rfl (lv_at hl 0 rfl) ?_
  refine c_get (v := .int 40) (k := 0) (ci := 6) E w ⟨by omega, by omega⟩ (RT_k G k 6 F _) rfl uwX6 (by decide) fc_RX6_19 rfl dX6_init_20 ?_
  refine c_arr (atype := .int) (ty := .int) (kd := 13) (t0 := 1) E w rfl rfl (fun z => z) rfl (by show k + 1 < NN; omega) ac_int (x := 40) (L := 40) (by decide) (by decide) (by decide) (Nat.le_of_ble_eq_true rfl) (Nat.le_of_ble_eq_true rfl) dX6_init_23 (fun H w => ?_)
  have w := r_cell (by omega) w (cell_arr G s1 (by decide) (by intro z; have z2 : k = 237 := (by omega); subst z2; exact absurd hs (by decide)) l1)
  refine c_put (v := .ref (ad G (k + 1))) (k := 1) (ci := 6) (ty0 := tyX6) E w ⟨by omega, by omega⟩ (RT_k G k 6 F _) rfl uwX6 tyX6_ok nmX6 (by decide) fc_RX6_22 (Or.inr ⟨rfl, hin, rfl⟩) rfl rfl (Nat.le_of_ble_eq_true rfl) dX6_init_25 (fun H locs w => ?_)
  have w : CW G b s (k + 1) (RT G k 6 F [.int 40, .ref (ad G (k + 1)), .null, .int 0]) H locs := r_put w
  refine lv_aload_n E.1 E.2.1 dX6_init_28 rfl (lv_at hl 0 rfl) ?_
  refine lv_aload_n E.1 E.2.1 dX6_init_29 rfl (lv_at hl 0 rfl) ?_
  refine c_get (v := .int 40) (k := 0) (ci := 6) E w ⟨by omega, by omega⟩ (RT_k G k 6 F _) rfl uwX6 (by decide) fc_RX6_19 rfl dX6_init_30 ?_
  refine c_arr (atype := .int) (ty := .int) (kd := 13) (t0 := 1) E w rfl rfl (fun z => z) rfl (by show k + 2 < NN; omega) ac_int (x := 40) (L := 40) (by decide) (by decide) (by decide) (Nat.le_of_ble_eq_true rfl) (Nat.le_of_ble_eq_true rfl) dX6_init_33 (fun H w => ?_)
  have w := r_cell (by omega) w (cell_arr G s2 (by decide) (by intro z; have z2 : k = 236 := (by omega); subst z2; exact absurd hs (by decide)) l2)
  refine c_put (v := .ref (ad G (k + 2))) (k := 2) (ci := 6) (ty0 := tyX6) E w ⟨by omega, by omega⟩ (RT_k G k 6 F _) rfl uwX6 tyX6_ok nmX6 (by decide) fc_RX6_26 (Or.inr ⟨rfl, hin, rfl⟩) rfl rfl (Nat.le_of_ble_eq_true rfl) dX6_init_35 (fun H locs w => ?_)
  have w : CW G b s (k + 2) (RT G k 6 F [.int 40, .ref (ad G (k + 1)), .ref (ad G (k + 2)), .int 0]) H locs := r_put w
  have w := r_end w hs (by decide) (by
    have e : fsO G hI k 6 = [.int 40, .ref (ad G (k + 1)), .ref (ad G (k + 2)), .int 0] := by
      simp [fsO, fk, fkL, fv, hI, hs, l1, iniL, rfv]
      rfl
    exact e)
  exact c_vret E w hr hlk dX6_init_38
set_option maxRecDepth 8000 in
set_option maxHeartbeats 4000000 in
theorem X6_init_8_n {l : Launch} {G : GT} {b k : Nat} {F : Nat → va_E} (hs : sh k = 6) (hL : ln (k + 1) = 8 ∧ ln (k + 2) = 8) (hF : F k = .inr (6, [.int 0, .null, .null, .int 0])) : CN l G yX6_init cX6_init 2 1 24 2 16 [.ref (ad G k), .int 8] b k F (k + 2) (FN G k F) := by
  have hk0 : 0 < k := sh_pos (by omega)
  have hkn : k + 2 < NN := by have := (by decide +kernel : ∀ k, k < 257 → sh k = 6 → k + 2 < 257) k (sh_lt (by omega)) hs; exact this
  have hNN : NN = 257 := rfl
  have s1 : sh (k + 1) = 13 := (by decide +kernel : ∀ k, k < 257 → sh k = 6 → sh (k + 1) = 13) k (sh_lt (by omega)) hs
  have s2 : sh (k + 2) = 13 := (by decide +kernel : ∀ k, k < 257 → sh k = 6 → sh (k + 2) = 13) k (sh_lt (by omega)) hs
  obtain ⟨l1, l2⟩ := hL
  refine CN.of (by decide) (Nat.le_of_ble_eq_true rfl) ?_
  intro p e s m below meth c ls E hr hlk hin w hl
  have hl : lv_has ls 2 [(0, .ref (ad G k)), (1, .int 8)] := hl
  have w := r_start w hF
  refine lv_aload_n E.1 E.2.1 dX6_init_0 rfl (lv_at hl 0 rfl) ?_
  refine c_objInit E oi_RX6 hl.1 ⟨Nat.le_of_ble_eq_true rfl, Nat.le_of_ble_eq_true rfl⟩ dX6_init_1 ?_
  refine lv_aload_n E.1 E.2.1 dX6_init_4 rfl (lv_at hl 0 rfl) ?_
  refine lv_iconst (v := 0) E.1 E.2.1 dX6_init_5 rfl ?_
  refine c_put (v := .int 0) (k := 3) (ci := 6) (ty0 := tyX6) E w ⟨by omega, by omega⟩ (RT_k G k 6 F _) rfl uwX6 tyX6_ok nmX6 (by decide) fc_RX6_7 (Or.inl rfl) rfl rfl (Nat.le_of_ble_eq_true rfl) dX6_init_6 (fun H locs w => ?_)
  have w : CW G b s (k) (RT G k 6 F [.int 0, .null, .null, .int 0]) H locs := r_put w
  refine lv_aload_n E.1 E.2.1 dX6_init_9 rfl (lv_at hl 0 rfl) ?_
  refine lv_iconst (v := 0) E.1 E.2.1 dX6_init_10 rfl ?_
  refine lv_iload_n E.1 E.2.1 dX6_init_11 rfl (lv_at hl 1 rfl) ?_
  refine q_max E mm_RX6_13 hl.1 ⟨Nat.le_of_ble_eq_true rfl, Nat.le_of_ble_eq_true rfl⟩ ⟨Nat.le_of_ble_eq_true rfl, Nat.le_of_ble_eq_true rfl⟩ dX6_init_12 ?_
  rw [show (if (0 : Int32) < 8 then (8 : Int32) else 0) = 8 from rfl]
  refine c_put (v := .int 8) (k := 0) (ci := 6) (ty0 := tyX6) E w ⟨by omega, by omega⟩ (RT_k G k 6 F _) rfl uwX6 tyX6_ok nmX6 (by decide) fc_RX6_19 (Or.inr ⟨rfl, hin, rfl⟩) rfl rfl (Nat.le_of_ble_eq_true rfl) dX6_init_15 (fun H locs w => ?_)
  have w : CW G b s (k) (RT G k 6 F [.int 8, .null, .null, .int 0]) H locs := r_put w
  refine lv_aload_n E.1 E.2.1 dX6_init_18 rfl (lv_at hl 0 rfl) ?_
  refine lv_aload_n E.1 E.2.1 dX6_init_19 rfl (lv_at hl 0 rfl) ?_
  refine c_get (v := .int 8) (k := 0) (ci := 6) E w ⟨by omega, by omega⟩ (RT_k G k 6 F _) rfl uwX6 (by decide) fc_RX6_19 rfl dX6_init_20 ?_
  refine c_arr (atype := .int) (ty := .int) (kd := 13) (t0 := 1) E w rfl rfl (fun z => z) rfl (by show k + 1 < NN; omega) ac_int (x := 8) (L := 8) (by decide) (by decide) (by decide) (Nat.le_of_ble_eq_true rfl) (Nat.le_of_ble_eq_true rfl) dX6_init_23 (fun H w => ?_)
  have w := r_cell (by omega) w (cell_arr G s1 (by decide) (by intro z; have z2 : k = 237 := (by omega); subst z2; exact absurd hs (by decide)) l1)
  refine c_put (v := .ref (ad G (k + 1))) (k := 1) (ci := 6) (ty0 := tyX6) E w ⟨by omega, by omega⟩ (RT_k G k 6 F _) rfl uwX6 tyX6_ok nmX6 (by decide) fc_RX6_22 (Or.inr ⟨rfl, hin, rfl⟩) rfl rfl (Nat.le_of_ble_eq_true rfl) dX6_init_25 (fun H locs w => ?_)
  have w : CW G b s (k + 1) (RT G k 6 F [.int 8, .ref (ad G (k + 1)), .null, .int 0]) H locs := r_put w
  refine lv_aload_n E.1 E.2.1 dX6_init_28 rfl (lv_at hl 0 rfl) ?_
  refine lv_aload_n E.1 E.2.1 dX6_init_29 rfl (lv_at hl 0 rfl) ?_
  refine c_get (v := .int 8) (k := 0) (ci := 6) E w ⟨by omega, by omega⟩ (RT_k G k 6 F _) rfl uwX6 (by decide) fc_RX6_19 rfl dX6_init_30 ?_
  refine c_arr (atype := .int) (ty := .int) (kd := 13) (t0 := 1) E w rfl rfl (fun z => z) rfl (by show k + 2 < NN; omega) ac_int (x := 8) (L := 8) (by decide) (by decide) (by decide) (Nat.le_of_ble_eq_true rfl) (Nat.le_of_ble_eq_true rfl) dX6_init_33 (fun H w => ?_)
  have w := r_cell (by omega) w (cell_arr G s2 (by decide) (by intro z; have z2 : k = 236 := (by omega); subst z2; exact absurd hs (by decide)) l2)
  refine c_put (v := .ref (ad G (k + 2))) (k := 2) (ci := 6) (ty0 := tyX6) E w ⟨by omega, by omega⟩ (RT_k G k 6 F _) rfl uwX6 tyX6_ok nmX6 (by decide) fc_RX6_26 (Or.inr ⟨rfl, hin, rfl⟩) rfl rfl (Nat.le_of_ble_eq_true rfl) dX6_init_35 (fun H locs w => ?_)
  have w : CW G b s (k + 2) (RT G k 6 F [.int 8, .ref (ad G (k + 1)), .ref (ad G (k + 2)), .int 0]) H locs := r_put w
  have w := r_end w hs (by decide) (by
    have e : fsO G hI k 6 = [.int 8, .ref (ad G (k + 1)), .ref (ad G (k + 2)), .int 0] := by
      simp [fsO, fk, fkL, fv, hI, hs, l1, iniL, rfv]
      rfl
    exact e)
  exact c_vret E w hr hlk dX6_init_38
set_option maxRecDepth 8000 in
set_option maxHeartbeats 4000000 in
theorem X7_init_n {l : Launch} {G : GT} {b k : Nat} {F : Nat → va_E} (hs : sh k = 7) (hF : F k = .inr (7, [.null, .int 0, .int 0, .int 0, .null, .null, .null, .null])) : CN l G yX7_init cX7_init 1 2 45 37 963 [.ref (ad G k)] b k F (k + 37) (FN G k F) := by
  have hk0 : 0 < k := sh_pos (by omega)
  have hkn : k + 37 < NN := by have := (by decide +kernel : ∀ k, k < 257 → sh k = 7 → k + 37 < 257) k (sh_lt (by omega)) hs; exact this
  have hNN : NN = 257 := rfl
  have s1 : sh (k + 1) = 12 := (by decide +kernel : ∀ k, k < 257 → sh k = 7 → sh (k + 1) = 12) k (sh_lt (by omega)) hs
  have l1 : ln (k + 1) = 600 := (by decide +kernel : ∀ k, k < 257 → sh k = 7 → ln (k + 1) = 600) k (sh_lt (by omega)) hs
  have s2 : sh (k + 2) = 13 := (by decide +kernel : ∀ k, k < 257 → sh k = 7 → sh (k + 2) = 13) k (sh_lt (by omega)) hs
  have l2 : ln (k + 2) = 3 := (by decide +kernel : ∀ k, k < 257 → sh k = 7 → ln (k + 2) = 3) k (sh_lt (by omega)) hs
  have s3 : sh (k + 3) = 15 := (by decide +kernel : ∀ k, k < 257 → sh k = 7 → sh (k + 3) = 15) k (sh_lt (by omega)) hs
  have l3 : ln (k + 3) = 2 := (by decide +kernel : ∀ k, k < 257 → sh k = 7 → ln (k + 3) = 2) k (sh_lt (by omega)) hs
  have s4 : sh (k + 4) = 1 := (by decide +kernel : ∀ k, k < 257 → sh k = 7 → sh (k + 4) = 1) k (sh_lt (by omega)) hs
  have s14 : sh (k + 14) = 1 := (by decide +kernel : ∀ k, k < 257 → sh k = 7 → sh (k + 14) = 1) k (sh_lt (by omega)) hs
  have s24 : sh (k + 24) = 16 := (by decide +kernel : ∀ k, k < 257 → sh k = 7 → sh (k + 24) = 16) k (sh_lt (by omega)) hs
  have l24 : ln (k + 24) = 2 := (by decide +kernel : ∀ k, k < 257 → sh k = 7 → ln (k + 24) = 2) k (sh_lt (by omega)) hs
  have s25 : sh (k + 25) = 6 := (by decide +kernel : ∀ k, k < 257 → sh k = 7 → sh (k + 25) = 6) k (sh_lt (by omega)) hs
  have l26 : ln (k + 26) = 40 := (by decide +kernel : ∀ k, k < 257 → sh k = 7 → ln (k + 26) = 40) k (sh_lt (by omega)) hs
  have l27 : ln (k + 27) = 40 := (by decide +kernel : ∀ k, k < 257 → sh k = 7 → ln (k + 27) = 40) k (sh_lt (by omega)) hs
  have s28 : sh (k + 28) = 6 := (by decide +kernel : ∀ k, k < 257 → sh k = 7 → sh (k + 28) = 6) k (sh_lt (by omega)) hs
  have l29 : ln (k + 29) = 40 := (by decide +kernel : ∀ k, k < 257 → sh k = 7 → ln (k + 29) = 40) k (sh_lt (by omega)) hs
  have l30 : ln (k + 30) = 40 := (by decide +kernel : ∀ k, k < 257 → sh k = 7 → ln (k + 30) = 40) k (sh_lt (by omega)) hs
  have s31 : sh (k + 31) = 16 := (by decide +kernel : ∀ k, k < 257 → sh k = 7 → sh (k + 31) = 16) k (sh_lt (by omega)) hs
  have l31 : ln (k + 31) = 2 := (by decide +kernel : ∀ k, k < 257 → sh k = 7 → ln (k + 31) = 2) k (sh_lt (by omega)) hs
  have s32 : sh (k + 32) = 6 := (by decide +kernel : ∀ k, k < 257 → sh k = 7 → sh (k + 32) = 6) k (sh_lt (by omega)) hs
  have l33 : ln (k + 33) = 8 := (by decide +kernel : ∀ k, k < 257 → sh k = 7 → ln (k + 33) = 8) k (sh_lt (by omega)) hs
  have l34 : ln (k + 34) = 8 := (by decide +kernel : ∀ k, k < 257 → sh k = 7 → ln (k + 34) = 8) k (sh_lt (by omega)) hs
  have s35 : sh (k + 35) = 6 := (by decide +kernel : ∀ k, k < 257 → sh k = 7 → sh (k + 35) = 6) k (sh_lt (by omega)) hs
  have l36 : ln (k + 36) = 8 := (by decide +kernel : ∀ k, k < 257 → sh k = 7 → ln (k + 36) = 8) k (sh_lt (by omega)) hs
  have l37 : ln (k + 37) = 8 := (by decide +kernel : ∀ k, k < 257 → sh k = 7 → ln (k + 37) = 8) k (sh_lt (by omega)) hs
  refine CN.of (by decide) (Nat.le_of_ble_eq_true rfl) ?_
  intro p e s m below meth c ls E hr hlk hin w hl
  have hl : lv_has ls 1 [(0, .ref (ad G k))] := hl
  have w := r_start w hF
  refine lv_aload_n E.1 E.2.1 dX7_init_0 rfl (lv_at hl 0 rfl) ?_
  refine c_objInit E oi_RX7 hl.1 ⟨Nat.le_of_ble_eq_true rfl, Nat.le_of_ble_eq_true rfl⟩ dX7_init_1 ?_
  refine lv_aload_n E.1 E.2.1 dX7_init_4 rfl (lv_at hl 0 rfl) ?_
  refine lv_sipush (v := 600) E.1 E.2.1 dX7_init_5 rfl ?_
  refine c_arr (atype := .byte) (ty := .byte) (kd := 12) (t0 := 0) E w rfl rfl (fun z => z) rfl (by show k + 1 < NN; omega) ac_byte (x := 600) (L := 600) (by decide) (by decide) (by decide) (Nat.le_of_ble_eq_true rfl) (Nat.le_of_ble_eq_true rfl) dX7_init_8 (fun H w => ?_)
  have w := r_cell (by omega) w (cell_arr G s1 (by decide) (by intro z; have z2 : k = 237 := (by omega); subst z2; exact absurd hs (by decide)) l1)
  refine c_put (v := .ref (ad G (k + 1))) (k := 0) (ci := 7) (ty0 := tyX7) E w ⟨by omega, by omega⟩ (RT_k G k 7 F _) rfl uwX7 tyX7_ok nmX7 (by decide) fc_RX7_9 (Or.inr ⟨rfl, hin, rfl⟩) rfl rfl (Nat.le_of_ble_eq_true rfl) dX7_init_10 (fun H locs w => ?_)
  have w : CW G b s (k + 1) (RT G k 7 F [.ref (ad G (k + 1)), .int 0, .int 0, .int 0, .null, .null, .null, .null]) H locs := r_put w
  refine lv_aload_n E.1 E.2.1 dX7_init_13 rfl (lv_at hl 0 rfl) ?_
  refine lv_iconst (v := 0) E.1 E.2.1 dX7_init_14 rfl ?_
  refine c_put (v := .int 0) (k := 1) (ci := 7) (ty0 := tyX7) E w ⟨by omega, by omega⟩ (RT_k G k 7 F _) rfl uwX7 tyX7_ok nmX7 (by decide) fc_RX7_15 (Or.inl rfl) rfl rfl (Nat.le_of_ble_eq_true rfl) dX7_init_15 (fun H locs w => ?_)
  have w : CW G b s (k + 1) (RT G k 7 F [.ref (ad G (k + 1)), .int 0, .int 0, .int 0, .null, .null, .null, .null]) H locs := r_put w
  refine lv_aload_n E.1 E.2.1 dX7_init_18 rfl (lv_at hl 0 rfl) ?_
  refine lv_iconst (v := 0) E.1 E.2.1 dX7_init_19 rfl ?_
  refine c_put (v := .int 0) (k := 2) (ci := 7) (ty0 := tyX7) E w ⟨by omega, by omega⟩ (RT_k G k 7 F _) rfl uwX7 tyX7_ok nmX7 (by decide) fc_RX7_19 (Or.inl rfl) rfl rfl (Nat.le_of_ble_eq_true rfl) dX7_init_20 (fun H locs w => ?_)
  have w : CW G b s (k + 1) (RT G k 7 F [.ref (ad G (k + 1)), .int 0, .int 0, .int 0, .null, .null, .null, .null]) H locs := r_put w
  refine lv_aload_n E.1 E.2.1 dX7_init_23 rfl (lv_at hl 0 rfl) ?_
  refine lv_iconst (v := (-1)) E.1 E.2.1 dX7_init_24 rfl ?_
  refine c_put (v := .int (-1)) (k := 3) (ci := 7) (ty0 := tyX7) E w ⟨by omega, by omega⟩ (RT_k G k 7 F _) rfl uwX7 tyX7_ok nmX7 (by decide) fc_RX7_22 (Or.inl rfl) rfl rfl (Nat.le_of_ble_eq_true rfl) dX7_init_25 (fun H locs w => ?_)
  have w : CW G b s (k + 1) (RT G k 7 F [.ref (ad G (k + 1)), .int 0, .int 0, .int (-1), .null, .null, .null, .null]) H locs := r_put w
  refine lv_aload_n E.1 E.2.1 dX7_init_28 rfl (lv_at hl 0 rfl) ?_
  refine lv_iconst (v := 3) E.1 E.2.1 dX7_init_29 rfl ?_
  refine c_arr (atype := .int) (ty := .int) (kd := 13) (t0 := 1) E w rfl rfl (fun z => z) rfl (by show k + 2 < NN; omega) ac_int (x := 3) (L := 3) (by decide) (by decide) (by decide) (Nat.le_of_ble_eq_true rfl) (Nat.le_of_ble_eq_true rfl) dX7_init_30 (fun H w => ?_)
  have w := r_cell (by omega) w (cell_arr G s2 (by decide) (by intro z; have z2 : k = 236 := (by omega); subst z2; exact absurd hs (by decide)) l2)
  refine c_put (v := .ref (ad G (k + 2))) (k := 4) (ci := 7) (ty0 := tyX7) E w ⟨by omega, by omega⟩ (RT_k G k 7 F _) rfl uwX7 tyX7_ok nmX7 (by decide) fc_RX7_25 (Or.inr ⟨rfl, hin, rfl⟩) rfl rfl (Nat.le_of_ble_eq_true rfl) dX7_init_32 (fun H locs w => ?_)
  have w : CW G b s (k + 2) (RT G k 7 F [.ref (ad G (k + 1)), .int 0, .int 0, .int (-1), .ref (ad G (k + 2)), .null, .null, .null]) H locs := r_put w
  refine lv_aload_n E.1 E.2.1 dX7_init_35 rfl (lv_at hl 0 rfl) ?_
  refine lv_iconst (v := 2) E.1 E.2.1 dX7_init_36 rfl ?_
  refine c_anew (kd := 15) (t0 := 3) E w rfl w.2.2.2.2.2.1.2.1 (by show k + 3 < NN; omega) na_RX7_29 (x := 2) (L := 2) (by decide) (by decide) (by decide) (Nat.le_of_ble_eq_true rfl) (Nat.le_of_ble_eq_true rfl) dX7_init_37 (fun H w => ?_)
  refine lv_dup E.1 E.2.1 dX7_init_40 rfl ?_
  refine lv_iconst (v := 0) E.1 E.2.1 dX7_init_41 rfl ?_
  refine c_new (ci := 1) E w [.int 0, .int 0, .int 0, .int 0, .int 0, .null, .null, .null, .null, .null, .null, .null, .null, .null] (by show k + 4 < NN; omega) rfl uwX1 tyX1_ok nw_RX7_29 (by decide) (Nat.le_of_ble_eq_true rfl) (Nat.le_of_ble_eq_true rfl) dX7_init_42 (fun H w => ?_)
  refine lv_dup E.1 E.2.1 dX7_init_45 rfl ?_
  refine c_call (k := k + 4) (As := []) (rest := [.ref (ad G (k + 4)), .int 0, .ref (ad G (k + 3)), .ref (ad G (k + 3)), .ref (ad G (k))]) E w (X1_init_n s4 (by simp [va_up])) mi_RX7_31 rfl rfl hl.1 ⟨Nat.le_of_ble_eq_true rfl, Nat.le_of_ble_eq_true rfl⟩ (Nat.le_of_ble_eq_true rfl) ⟨Nat.le_of_ble_eq_true rfl, Nat.le_of_ble_eq_true rfl⟩ dX7_init_46 (fun H locs w => ?_)
  have w := r_sub (fun i hi => by unfold va_up; rw [if_neg (by omega)]; exact RT_gt G F _ (by omega)) w
  have w : CW G b s (k + 13) (va_up (RT G k 7 F [.ref (ad G (k + 1)), .int 0, .int 0, .int (-1), .ref (ad G (k + 2)), .null, .null, .null]) (k + 3) (.inl (G.2.2.1 15, 2, .inr (.inr (.inr (.inr (fun _ => none))))))) H locs := w
  refine c_aast (L := 2) (f := fun _ => none) (kd := 15) (ka := k + 3) (kv := k + 4) (ci := 1) (t0 := 3) E w ⟨by omega, by omega⟩ ⟨by omega, by omega⟩ (by simp [va_up]) rfl (by unfold va_up; rw [if_neg (by omega), RT_gt G F _ (by omega), cell_o G hI s4 (by decide)]) rfl (by decide) dX7_init_49 (fun H locs w => ?_)
  have w : CW G b s (k + 13) (va_up (RT G k 7 F [.ref (ad G (k + 1)), .int 0, .int 0, .int (-1), .ref (ad G (k + 2)), .null, .null, .null]) (k + 3) (.inl (G.2.2.1 15, 2, .inr (.inr (.inr (.inr (va_up (fun _ => none) 0 (some (ad G (k + 4)))))))))) H locs := CW_congr w (fun i h1 h2 => by unfold va_up; by_cases z : i = k + 3 <;> simp [z])
  refine lv_dup E.1 E.2.1 dX7_init_50 rfl ?_
  refine lv_iconst (v := 1) E.1 E.2.1 dX7_init_51 rfl ?_
  refine c_new (ci := 1) E w [.int 0, .int 0, .int 0, .int 0, .int 0, .null, .null, .null, .null, .null, .null, .null, .null, .null] (by show k + 14 < NN; omega) rfl uwX1 tyX1_ok nw_RX7_29 (by decide) (Nat.le_of_ble_eq_true rfl) (Nat.le_of_ble_eq_true rfl) dX7_init_52 (fun H w => ?_)
  refine lv_dup E.1 E.2.1 dX7_init_55 rfl ?_
  refine c_call (k := k + 14) (As := []) (rest := [.ref (ad G (k + 14)), .int 1, .ref (ad G (k + 3)), .ref (ad G (k + 3)), .ref (ad G (k))]) E w (X1_init_n s14 (by simp [va_up])) mi_RX7_31 rfl rfl hl.1 ⟨Nat.le_of_ble_eq_true rfl, Nat.le_of_ble_eq_true rfl⟩ (Nat.le_of_ble_eq_true rfl) ⟨Nat.le_of_ble_eq_true rfl, Nat.le_of_ble_eq_true rfl⟩ dX7_init_56 (fun H locs w => ?_)
  have w := r_sub (fun i hi => by unfold va_up; rw [if_neg (by omega)]; exact RT_gt G F _ (by omega)) w
  have w : CW G b s (k + 23) (va_up (RT G k 7 F [.ref (ad G (k + 1)), .int 0, .int 0, .int (-1), .ref (ad G (k + 2)), .null, .null, .null]) (k + 3) (.inl (G.2.2.1 15, 2, .inr (.inr (.inr (.inr (va_up (fun _ => none) 0 (some (ad G (k + 4)))))))))) H locs := w
  refine c_aast (L := 2) (f := va_up (fun _ => none) 0 (some (ad G (k + 4)))) (kd := 15) (ka := k + 3) (kv := k + 14) (ci := 1) (t0 := 3) E w ⟨by omega, by omega⟩ ⟨by omega, by omega⟩ (by simp [va_up]) rfl (by unfold va_up; rw [if_neg (by omega), RT_gt G F _ (by omega), cell_o G hI s14 (by decide)]) rfl (by decide) dX7_init_59 (fun H locs w => ?_)
  have w : CW G b s (k + 23) (va_up (RT G k 7 F [.ref (ad G (k + 1)), .int 0, .int 0, .int (-1), .ref (ad G (k + 2)), .null, .null, .null]) (k + 3) (.inl (G.2.2.1 15, 2, .inr (.inr (.inr (.inr (va_up (va_up (fun _ => none) 0 (some (ad G (k + 4)))) 1 (some (ad G (k + 14)))))))))) H locs := CW_congr w (fun i h1 h2 => by unfold va_up; by_cases z : i = k + 3 <;> simp [z])
  have w := r_refs ⟨by omega, by omega⟩ w s3 (by decide) l3 (RT_gt G F _ (by omega)) (by
    intro j hj
    have hr := (by decide +kernel : ∀ k, k < 257 → sh k = 7 → ra (k + 3) 0 = k + 4 ∧ ra (k + 3) 1 = k + 14) k (sh_lt (by omega)) hs
    obtain ⟨h0, h1⟩ := hr
    rcases (show j = 0 ∨ j = 1 by omega) with rfl | rfl
    · rw [h0]; rfl
    · rw [h1]; rfl
    )
  refine c_put (v := .ref (ad G (k + 3))) (k := 5) (ci := 7) (ty0 := tyX7) E w ⟨by omega, by omega⟩ (RT_k G k 7 F _) rfl uwX7 tyX7_ok nmX7 (by decide) fc_RX7_32 (Or.inr ⟨rfl, hin, rfl⟩) rfl rfl (Nat.le_of_ble_eq_true rfl) dX7_init_60 (fun H locs w => ?_)
  have w : CW G b s (k + 23) (RT G k 7 F [.ref (ad G (k + 1)), .int 0, .int 0, .int (-1), .ref (ad G (k + 2)), .ref (ad G (k + 3)), .null, .null]) H locs := r_put w
  refine lv_aload_n E.1 E.2.1 dX7_init_63 rfl (lv_at hl 0 rfl) ?_
  refine lv_iconst (v := 2) E.1 E.2.1 dX7_init_64 rfl ?_
  refine c_anew (kd := 16) (t0 := 4) E w rfl w.2.2.2.2.2.1.2.2.1 (by show k + 24 < NN; omega) na_RX7_36 (x := 2) (L := 2) (by decide) (by decide) (by decide) (Nat.le_of_ble_eq_true rfl) (Nat.le_of_ble_eq_true rfl) dX7_init_65 (fun H w => ?_)
  refine lv_dup E.1 E.2.1 dX7_init_68 rfl ?_
  refine lv_iconst (v := 0) E.1 E.2.1 dX7_init_69 rfl ?_
  refine c_new (ci := 6) E w [.int 0, .null, .null, .int 0] (by show k + 25 < NN; omega) rfl uwX6 tyX6_ok nw_RX7_36 (by decide) (Nat.le_of_ble_eq_true rfl) (Nat.le_of_ble_eq_true rfl) dX7_init_70 (fun H w => ?_)
  refine lv_dup E.1 E.2.1 dX7_init_73 rfl ?_
  refine lv_bipush (v := 40) E.1 E.2.1 dX7_init_74 rfl ?_
  refine c_call (k := k + 25) (As := [.int 40]) (rest := [.ref (ad G (k + 25)), .int 0, .ref (ad G (k + 24)), .ref (ad G (k + 24)), .ref (ad G (k))]) E w (X6_init_40_n s25 ⟨l26, l27⟩ (by simp [va_up])) mi_RX7_38 rfl rfl hl.1 ⟨Nat.le_of_ble_eq_true rfl, Nat.le_of_ble_eq_true rfl⟩ (Nat.le_of_ble_eq_true rfl) ⟨Nat.le_of_ble_eq_true rfl, Nat.le_of_ble_eq_true rfl⟩ dX7_init_76 (fun H locs w => ?_)
  have w := r_sub (fun i hi => by unfold va_up; rw [if_neg (by omega)]; exact RT_gt G F _ (by omega)) w
  have w : CW G b s (k + 27) (va_up (RT G k 7 F [.ref (ad G (k + 1)), .int 0, .int 0, .int (-1), .ref (ad G (k + 2)), .ref (ad G (k + 3)), .null, .null]) (k + 24) (.inl (G.2.2.1 16, 2, .inr (.inr (.inr (.inr (fun _ => none))))))) H locs := w
  refine c_aast (L := 2) (f := fun _ => none) (kd := 16) (ka := k + 24) (kv := k + 25) (ci := 6) (t0 := 4) E w ⟨by omega, by omega⟩ ⟨by omega, by omega⟩ (by simp [va_up]) rfl (by unfold va_up; rw [if_neg (by omega), RT_gt G F _ (by omega), cell_o G hI s25 (by decide)]) rfl (by decide) dX7_init_79 (fun H locs w => ?_)
  have w : CW G b s (k + 27) (va_up (RT G k 7 F [.ref (ad G (k + 1)), .int 0, .int 0, .int (-1), .ref (ad G (k + 2)), .ref (ad G (k + 3)), .null, .null]) (k + 24) (.inl (G.2.2.1 16, 2, .inr (.inr (.inr (.inr (va_up (fun _ => none) 0 (some (ad G (k + 25)))))))))) H locs := CW_congr w (fun i h1 h2 => by unfold va_up; by_cases z : i = k + 24 <;> simp [z])
  refine lv_dup E.1 E.2.1 dX7_init_80 rfl ?_
  refine lv_iconst (v := 1) E.1 E.2.1 dX7_init_81 rfl ?_
  refine c_new (ci := 6) E w [.int 0, .null, .null, .int 0] (by show k + 28 < NN; omega) rfl uwX6 tyX6_ok nw_RX7_36 (by decide) (Nat.le_of_ble_eq_true rfl) (Nat.le_of_ble_eq_true rfl) dX7_init_82 (fun H w => ?_)
  refine lv_dup E.1 E.2.1 dX7_init_85 rfl ?_
  refine lv_bipush (v := 40) E.1 E.2.1 dX7_init_86 rfl ?_
  refine c_call (k := k + 28) (As := [.int 40]) (rest := [.ref (ad G (k + 28)), .int 1, .ref (ad G (k + 24)), .ref (ad G (k + 24)), .ref (ad G (k))]) E w (X6_init_40_n s28 ⟨l29, l30⟩ (by simp [va_up])) mi_RX7_38 rfl rfl hl.1 ⟨Nat.le_of_ble_eq_true rfl, Nat.le_of_ble_eq_true rfl⟩ (Nat.le_of_ble_eq_true rfl) ⟨Nat.le_of_ble_eq_true rfl, Nat.le_of_ble_eq_true rfl⟩ dX7_init_88 (fun H locs w => ?_)
  have w := r_sub (fun i hi => by unfold va_up; rw [if_neg (by omega)]; exact RT_gt G F _ (by omega)) w
  have w : CW G b s (k + 30) (va_up (RT G k 7 F [.ref (ad G (k + 1)), .int 0, .int 0, .int (-1), .ref (ad G (k + 2)), .ref (ad G (k + 3)), .null, .null]) (k + 24) (.inl (G.2.2.1 16, 2, .inr (.inr (.inr (.inr (va_up (fun _ => none) 0 (some (ad G (k + 25)))))))))) H locs := w
  refine c_aast (L := 2) (f := va_up (fun _ => none) 0 (some (ad G (k + 25)))) (kd := 16) (ka := k + 24) (kv := k + 28) (ci := 6) (t0 := 4) E w ⟨by omega, by omega⟩ ⟨by omega, by omega⟩ (by simp [va_up]) rfl (by unfold va_up; rw [if_neg (by omega), RT_gt G F _ (by omega), cell_o G hI s28 (by decide)]) rfl (by decide) dX7_init_91 (fun H locs w => ?_)
  have w : CW G b s (k + 30) (va_up (RT G k 7 F [.ref (ad G (k + 1)), .int 0, .int 0, .int (-1), .ref (ad G (k + 2)), .ref (ad G (k + 3)), .null, .null]) (k + 24) (.inl (G.2.2.1 16, 2, .inr (.inr (.inr (.inr (va_up (va_up (fun _ => none) 0 (some (ad G (k + 25)))) 1 (some (ad G (k + 28)))))))))) H locs := CW_congr w (fun i h1 h2 => by unfold va_up; by_cases z : i = k + 24 <;> simp [z])
  have w := r_refs ⟨by omega, by omega⟩ w s24 (by decide) l24 (RT_gt G F _ (by omega)) (by
    intro j hj
    have hr := (by decide +kernel : ∀ k, k < 257 → sh k = 7 → ra (k + 24) 0 = k + 25 ∧ ra (k + 24) 1 = k + 28) k (sh_lt (by omega)) hs
    obtain ⟨h0, h1⟩ := hr
    rcases (show j = 0 ∨ j = 1 by omega) with rfl | rfl
    · rw [h0]; rfl
    · rw [h1]; rfl
    )
  refine c_put (v := .ref (ad G (k + 24))) (k := 6) (ci := 7) (ty0 := tyX7) E w ⟨by omega, by omega⟩ (RT_k G k 7 F _) rfl uwX7 tyX7_ok nmX7 (by decide) fc_RX7_41 (Or.inr ⟨rfl, hin, rfl⟩) rfl rfl (Nat.le_of_ble_eq_true rfl) dX7_init_92 (fun H locs w => ?_)
  have w : CW G b s (k + 30) (RT G k 7 F [.ref (ad G (k + 1)), .int 0, .int 0, .int (-1), .ref (ad G (k + 2)), .ref (ad G (k + 3)), .ref (ad G (k + 24)), .null]) H locs := r_put w
  refine lv_aload_n E.1 E.2.1 dX7_init_95 rfl (lv_at hl 0 rfl) ?_
  refine lv_iconst (v := 2) E.1 E.2.1 dX7_init_96 rfl ?_
  refine c_anew (kd := 16) (t0 := 4) E w rfl w.2.2.2.2.2.1.2.2.1 (by show k + 31 < NN; omega) na_RX7_36 (x := 2) (L := 2) (by decide) (by decide) (by decide) (Nat.le_of_ble_eq_true rfl) (Nat.le_of_ble_eq_true rfl) dX7_init_97 (fun H w => ?_)
  refine lv_dup E.1 E.2.1 dX7_init_100 rfl ?_
  refine lv_iconst (v := 0) E.1 E.2.1 dX7_init_101 rfl ?_
  refine c_new (ci := 6) E w [.int 0, .null, .null, .int 0] (by show k + 32 < NN; omega) rfl uwX6 tyX6_ok nw_RX7_36 (by decide) (Nat.le_of_ble_eq_true rfl) (Nat.le_of_ble_eq_true rfl) dX7_init_102 (fun H w => ?_)
  refine lv_dup E.1 E.2.1 dX7_init_105 rfl ?_
  refine lv_bipush (v := 8) E.1 E.2.1 dX7_init_106 rfl ?_
  refine c_call (k := k + 32) (As := [.int 8]) (rest := [.ref (ad G (k + 32)), .int 0, .ref (ad G (k + 31)), .ref (ad G (k + 31)), .ref (ad G (k))]) E w (X6_init_8_n s32 ⟨l33, l34⟩ (by simp [va_up])) mi_RX7_38 rfl rfl hl.1 ⟨Nat.le_of_ble_eq_true rfl, Nat.le_of_ble_eq_true rfl⟩ (Nat.le_of_ble_eq_true rfl) ⟨Nat.le_of_ble_eq_true rfl, Nat.le_of_ble_eq_true rfl⟩ dX7_init_108 (fun H locs w => ?_)
  have w := r_sub (fun i hi => by unfold va_up; rw [if_neg (by omega)]; exact RT_gt G F _ (by omega)) w
  have w : CW G b s (k + 34) (va_up (RT G k 7 F [.ref (ad G (k + 1)), .int 0, .int 0, .int (-1), .ref (ad G (k + 2)), .ref (ad G (k + 3)), .ref (ad G (k + 24)), .null]) (k + 31) (.inl (G.2.2.1 16, 2, .inr (.inr (.inr (.inr (fun _ => none))))))) H locs := w
  refine c_aast (L := 2) (f := fun _ => none) (kd := 16) (ka := k + 31) (kv := k + 32) (ci := 6) (t0 := 4) E w ⟨by omega, by omega⟩ ⟨by omega, by omega⟩ (by simp [va_up]) rfl (by unfold va_up; rw [if_neg (by omega), RT_gt G F _ (by omega), cell_o G hI s32 (by decide)]) rfl (by decide) dX7_init_111 (fun H locs w => ?_)
  have w : CW G b s (k + 34) (va_up (RT G k 7 F [.ref (ad G (k + 1)), .int 0, .int 0, .int (-1), .ref (ad G (k + 2)), .ref (ad G (k + 3)), .ref (ad G (k + 24)), .null]) (k + 31) (.inl (G.2.2.1 16, 2, .inr (.inr (.inr (.inr (va_up (fun _ => none) 0 (some (ad G (k + 32)))))))))) H locs := CW_congr w (fun i h1 h2 => by unfold va_up; by_cases z : i = k + 31 <;> simp [z])
  refine lv_dup E.1 E.2.1 dX7_init_112 rfl ?_
  refine lv_iconst (v := 1) E.1 E.2.1 dX7_init_113 rfl ?_
  refine c_new (ci := 6) E w [.int 0, .null, .null, .int 0] (by show k + 35 < NN; omega) rfl uwX6 tyX6_ok nw_RX7_36 (by decide) (Nat.le_of_ble_eq_true rfl) (Nat.le_of_ble_eq_true rfl) dX7_init_114 (fun H w => ?_)
  refine lv_dup E.1 E.2.1 dX7_init_117 rfl ?_
  refine lv_bipush (v := 8) E.1 E.2.1 dX7_init_118 rfl ?_
  refine c_call (k := k + 35) (As := [.int 8]) (rest := [.ref (ad G (k + 35)), .int 1, .ref (ad G (k + 31)), .ref (ad G (k + 31)), .ref (ad G (k))]) E w (X6_init_8_n s35 ⟨l36, l37⟩ (by simp [va_up])) mi_RX7_38 rfl rfl hl.1 ⟨Nat.le_of_ble_eq_true rfl, Nat.le_of_ble_eq_true rfl⟩ (Nat.le_of_ble_eq_true rfl) ⟨Nat.le_of_ble_eq_true rfl, Nat.le_of_ble_eq_true rfl⟩ dX7_init_120 (fun H locs w => ?_)
  have w := r_sub (fun i hi => by unfold va_up; rw [if_neg (by omega)]; exact RT_gt G F _ (by omega)) w
  have w : CW G b s (k + 37) (va_up (RT G k 7 F [.ref (ad G (k + 1)), .int 0, .int 0, .int (-1), .ref (ad G (k + 2)), .ref (ad G (k + 3)), .ref (ad G (k + 24)), .null]) (k + 31) (.inl (G.2.2.1 16, 2, .inr (.inr (.inr (.inr (va_up (fun _ => none) 0 (some (ad G (k + 32)))))))))) H locs := w
  refine c_aast (L := 2) (f := va_up (fun _ => none) 0 (some (ad G (k + 32)))) (kd := 16) (ka := k + 31) (kv := k + 35) (ci := 6) (t0 := 4) E w ⟨by omega, by omega⟩ ⟨by omega, by omega⟩ (by simp [va_up]) rfl (by unfold va_up; rw [if_neg (by omega), RT_gt G F _ (by omega), cell_o G hI s35 (by decide)]) rfl (by decide) dX7_init_123 (fun H locs w => ?_)
  have w : CW G b s (k + 37) (va_up (RT G k 7 F [.ref (ad G (k + 1)), .int 0, .int 0, .int (-1), .ref (ad G (k + 2)), .ref (ad G (k + 3)), .ref (ad G (k + 24)), .null]) (k + 31) (.inl (G.2.2.1 16, 2, .inr (.inr (.inr (.inr (va_up (va_up (fun _ => none) 0 (some (ad G (k + 32)))) 1 (some (ad G (k + 35)))))))))) H locs := CW_congr w (fun i h1 h2 => by unfold va_up; by_cases z : i = k + 31 <;> simp [z])
  have w := r_refs ⟨by omega, by omega⟩ w s31 (by decide) l31 (RT_gt G F _ (by omega)) (by
    intro j hj
    have hr := (by decide +kernel : ∀ k, k < 257 → sh k = 7 → ra (k + 31) 0 = k + 32 ∧ ra (k + 31) 1 = k + 35) k (sh_lt (by omega)) hs
    obtain ⟨h0, h1⟩ := hr
    rcases (show j = 0 ∨ j = 1 by omega) with rfl | rfl
    · rw [h0]; rfl
    · rw [h1]; rfl
    )
  refine c_put (v := .ref (ad G (k + 31))) (k := 7) (ci := 7) (ty0 := tyX7) E w ⟨by omega, by omega⟩ (RT_k G k 7 F _) rfl uwX7 tyX7_ok nmX7 (by decide) fc_RX7_45 (Or.inr ⟨rfl, hin, rfl⟩) rfl rfl (Nat.le_of_ble_eq_true rfl) dX7_init_124 (fun H locs w => ?_)
  have w : CW G b s (k + 37) (RT G k 7 F [.ref (ad G (k + 1)), .int 0, .int 0, .int (-1), .ref (ad G (k + 2)), .ref (ad G (k + 3)), .ref (ad G (k + 24)), .ref (ad G (k + 31))]) H locs := r_put w
  have w := r_end w hs (by decide) (by
    have e : fsO G hI k 7 = [.ref (ad G (k + 1)), .int 0, .int 0, .int (-1), .ref (ad G (k + 2)), .ref (ad G (k + 3)), .ref (ad G (k + 24)), .ref (ad G (k + 31))] := by
      simp [fsO, fk, fkL, fv, hI, hs, iniL, rfv]
    exact e)
  exact c_vret E w hr hlk dX7_init_127
set_option maxRecDepth 8000 in
set_option maxHeartbeats 4000000 in
theorem X0_init_n {l : Launch} {G : GT} {b k : Nat} {F : Nat → va_E} (hs : sh k = 0) (hF : F k = .inr (0, [.null, .null])) : CN l G yX0_init cX0_init 1 2 40 11 81 [.ref (ad G k)] b k F (k + 11) (FN G k F) := by
  have hk0 : 0 < k := sh_pos (by omega)
  have hkn : k + 11 < NN := by have := (by decide +kernel : ∀ k, k < 257 → sh k = 0 → k + 11 < 257) k (sh_lt (by omega)) hs; exact this
  have hNN : NN = 257 := rfl
  have s1 : sh (k + 1) = 1 := (by decide +kernel : ∀ k, k < 257 → sh k = 0 → sh (k + 1) = 1) k (sh_lt (by omega)) hs
  have s11 : sh (k + 11) = 13 := (by decide +kernel : ∀ k, k < 257 → sh k = 0 → sh (k + 11) = 13) k (sh_lt (by omega)) hs
  have l11 : ln (k + 11) = 8 := (by decide +kernel : ∀ k, k < 257 → sh k = 0 → ln (k + 11) = 8) k (sh_lt (by omega)) hs
  refine CN.of (by decide) (Nat.le_of_ble_eq_true rfl) ?_
  intro p e s m below meth c ls E hr hlk hin w hl
  have hl : lv_has ls 1 [(0, .ref (ad G k))] := hl
  have w := r_start w hF
  refine lv_aload_n E.1 E.2.1 dX0_init_0 rfl (lv_at hl 0 rfl) ?_
  refine c_objInit E oi_RX0 hl.1 ⟨Nat.le_of_ble_eq_true rfl, Nat.le_of_ble_eq_true rfl⟩ dX0_init_1 ?_
  refine lv_aload_n E.1 E.2.1 dX0_init_4 rfl (lv_at hl 0 rfl) ?_
  refine c_new (ci := 1) E w [.int 0, .int 0, .int 0, .int 0, .int 0, .null, .null, .null, .null, .null, .null, .null, .null, .null] (by show k + 1 < NN; omega) rfl uwX1 tyX1_ok nw_RX0_9 (by decide) (Nat.le_of_ble_eq_true rfl) (Nat.le_of_ble_eq_true rfl) dX0_init_5 (fun H w => ?_)
  refine lv_dup E.1 E.2.1 dX0_init_8 rfl ?_
  refine c_call (k := k + 1) (As := []) (rest := [.ref (ad G (k + 1)), .ref (ad G (k))]) E w (X1_init_n s1 (by simp [va_up])) mi_RX0_11 rfl rfl hl.1 ⟨Nat.le_of_ble_eq_true rfl, Nat.le_of_ble_eq_true rfl⟩ (Nat.le_of_ble_eq_true rfl) ⟨Nat.le_of_ble_eq_true rfl, Nat.le_of_ble_eq_true rfl⟩ dX0_init_9 (fun H locs w => ?_)
  have w := r_sub (fun i hi => RT_gt G F _ (by omega)) w
  have w : CW G b s (k + 10) (RT G k 0 F [.null, .null]) H locs := w
  refine c_put (v := .ref (ad G (k + 1))) (k := 0) (ci := 0) (ty0 := tyX0) E w ⟨by omega, by omega⟩ (RT_k G k 0 F _) rfl uwX0 tyX0_ok nmX0 (by decide) fc_RX0_12 (Or.inl rfl) rfl rfl (Nat.le_of_ble_eq_true rfl) dX0_init_12 (fun H locs w => ?_)
  have w : CW G b s (k + 10) (RT G k 0 F [.ref (ad G (k + 1)), .null]) H locs := r_put w
  refine lv_aload_n E.1 E.2.1 dX0_init_15 rfl (lv_at hl 0 rfl) ?_
  refine lv_bipush (v := 8) E.1 E.2.1 dX0_init_16 rfl ?_
  refine c_arr (atype := .int) (ty := .int) (kd := 13) (t0 := 1) E w rfl rfl (fun z => z) rfl (by show k + 11 < NN; omega) ac_int (x := 8) (L := 8) (by decide) (by decide) (by decide) (Nat.le_of_ble_eq_true rfl) (Nat.le_of_ble_eq_true rfl) dX0_init_18 (fun H w => ?_)
  have w := r_cell (by omega) w (cell_arr G s11 (by decide) (by intro z; have z2 : k = 227 := (by omega); subst z2; exact absurd hs (by decide)) l11)
  refine c_put (v := .ref (ad G (k + 11))) (k := 1) (ci := 0) (ty0 := tyX0) E w ⟨by omega, by omega⟩ (RT_k G k 0 F _) rfl uwX0 tyX0_ok nmX0 (by decide) fc_RX0_18 (Or.inr ⟨rfl, hin, rfl⟩) rfl rfl (Nat.le_of_ble_eq_true rfl) dX0_init_20 (fun H locs w => ?_)
  have w : CW G b s (k + 11) (RT G k 0 F [.ref (ad G (k + 1)), .ref (ad G (k + 11))]) H locs := r_put w
  have w := r_end w hs (by decide) (by
    have e : fsO G hI k 0 = [.ref (ad G (k + 1)), .ref (ad G (k + 11))] := by
      simp [fsO, fk, fkL, fv, hI, hs, iniL, rfv]
    exact e)
  exact c_vret E w hr hlk dX0_init_23
