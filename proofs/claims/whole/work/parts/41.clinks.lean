abbrev cX0_init : ByteArray := prog_2_method_1_code
def yX0_init : MethodName := ⟨RX0, "<init>", "()V"⟩
abbrev cX1_init : ByteArray := prog_3_method_1_code
def yX1_init : MethodName := ⟨RX1, "<init>", "()V"⟩
abbrev cX2_init : ByteArray := prog_4_method_1_code
def yX2_init : MethodName := ⟨RX2, "<init>", "()V"⟩
abbrev cX3_init : ByteArray := prog_5_method_1_code
def yX3_init : MethodName := ⟨RX3, "<init>", "()V"⟩
abbrev cX4_init : ByteArray := prog_6_method_1_code
def yX4_init : MethodName := ⟨RX4, "<init>", "()V"⟩
abbrev cX5_init : ByteArray := prog_7_method_1_code
def yX5_init : MethodName := ⟨RX5, "<init>", "()V"⟩
abbrev cX6_init : ByteArray := prog_8_method_1_code
def yX6_init : MethodName := ⟨RX6, "<init>", "(I)V"⟩
abbrev cX7_init : ByteArray := prog_9_method_1_code
def yX7_init : MethodName := ⟨RX7, "<init>", "()V"⟩
abbrev cX8_init : ByteArray := prog_10_method_1_code
def yX8_init : MethodName := ⟨RX8, "<init>", "()V"⟩
abbrev cX9_init : ByteArray := prog_11_method_1_code
def yX9_init : MethodName := ⟨RX9, "<init>", "()V"⟩
abbrev cX10_init : ByteArray := prog_1_method_1_code
def yX10_init : MethodName := ⟨RX10, "<init>", "()V"⟩
abbrev cX11_init : ByteArray := prog_13_method_1_code
def yX11_init : MethodName := ⟨RX11, "<init>", "()V"⟩
theorem dX1_init_0 : decode cX1_init 0 = .ok (.aload_n 0, 1) := by decide +kernel
theorem dX1_init_1 : decode cX1_init 1 = .ok (.invokespecial 3, 3) := by decide +kernel
theorem dX1_init_4 : decode cX1_init 4 = .ok (.aload_n 0, 1) := by decide +kernel
theorem dX1_init_5 : decode cX1_init 5 = .ok (.iconst 0, 1) := by decide +kernel
theorem dX1_init_6 : decode cX1_init 6 = .ok (.putfield 9, 3) := by decide +kernel
theorem dX1_init_9 : decode cX1_init 9 = .ok (.aload_n 0, 1) := by decide +kernel
theorem dX1_init_10 : decode cX1_init 10 = .ok (.iconst 0, 1) := by decide +kernel
theorem dX1_init_11 : decode cX1_init 11 = .ok (.putfield 15, 3) := by decide +kernel
theorem dX1_init_14 : decode cX1_init 14 = .ok (.aload_n 0, 1) := by decide +kernel
theorem dX1_init_15 : decode cX1_init 15 = .ok (.iconst 0, 1) := by decide +kernel
theorem dX1_init_16 : decode cX1_init 16 = .ok (.putfield 18, 3) := by decide +kernel
theorem dX1_init_19 : decode cX1_init 19 = .ok (.aload_n 0, 1) := by decide +kernel
theorem dX1_init_20 : decode cX1_init 20 = .ok (.bipush 9, 2) := by decide +kernel
theorem dX1_init_22 : decode cX1_init 22 = .ok (.putfield 21, 3) := by decide +kernel
theorem dX1_init_25 : decode cX1_init 25 = .ok (.aload_n 0, 1) := by decide +kernel
theorem dX1_init_26 : decode cX1_init 26 = .ok (.iconst 0, 1) := by decide +kernel
theorem dX1_init_27 : decode cX1_init 27 = .ok (.putfield 24, 3) := by decide +kernel
theorem dX1_init_30 : decode cX1_init 30 = .ok (.aload_n 0, 1) := by decide +kernel
theorem dX1_init_31 : decode cX1_init 31 = .ok (.bipush 6, 2) := by decide +kernel
theorem dX1_init_33 : decode cX1_init 33 = .ok (.newarray .int, 2) := by decide +kernel
theorem dX1_init_35 : decode cX1_init 35 = .ok (.putfield 27, 3) := by decide +kernel
theorem dX1_init_38 : decode cX1_init 38 = .ok (.aload_n 0, 1) := by decide +kernel
theorem dX1_init_39 : decode cX1_init 39 = .ok (.bipush 6, 2) := by decide +kernel
theorem dX1_init_41 : decode cX1_init 41 = .ok (.newarray .int, 2) := by decide +kernel
theorem dX1_init_43 : decode cX1_init 43 = .ok (.putfield 31, 3) := by decide +kernel
theorem dX1_init_46 : decode cX1_init 46 = .ok (.aload_n 0, 1) := by decide +kernel
theorem dX1_init_47 : decode cX1_init 47 = .ok (.bipush 8, 2) := by decide +kernel
theorem dX1_init_49 : decode cX1_init 49 = .ok (.newarray .int, 2) := by decide +kernel
theorem dX1_init_51 : decode cX1_init 51 = .ok (.putfield 34, 3) := by decide +kernel
theorem dX1_init_54 : decode cX1_init 54 = .ok (.aload_n 0, 1) := by decide +kernel
theorem dX1_init_55 : decode cX1_init 55 = .ok (.bipush 8, 2) := by decide +kernel
theorem dX1_init_57 : decode cX1_init 57 = .ok (.newarray .int, 2) := by decide +kernel
theorem dX1_init_59 : decode cX1_init 59 = .ok (.putfield 37, 3) := by decide +kernel
theorem dX1_init_62 : decode cX1_init 62 = .ok (.aload_n 0, 1) := by decide +kernel
theorem dX1_init_63 : decode cX1_init 63 = .ok (.bipush 8, 2) := by decide +kernel
theorem dX1_init_65 : decode cX1_init 65 = .ok (.newarray .int, 2) := by decide +kernel
theorem dX1_init_67 : decode cX1_init 67 = .ok (.putfield 40, 3) := by decide +kernel
theorem dX1_init_70 : decode cX1_init 70 = .ok (.aload_n 0, 1) := by decide +kernel
theorem dX1_init_71 : decode cX1_init 71 = .ok (.bipush 8, 2) := by decide +kernel
theorem dX1_init_73 : decode cX1_init 73 = .ok (.newarray .int, 2) := by decide +kernel
theorem dX1_init_75 : decode cX1_init 75 = .ok (.putfield 43, 3) := by decide +kernel
theorem dX1_init_78 : decode cX1_init 78 = .ok (.aload_n 0, 1) := by decide +kernel
theorem dX1_init_79 : decode cX1_init 79 = .ok (.iconst 5, 1) := by decide +kernel
theorem dX1_init_80 : decode cX1_init 80 = .ok (.newarray .int, 2) := by decide +kernel
theorem dX1_init_82 : decode cX1_init 82 = .ok (.putfield 46, 3) := by decide +kernel
theorem dX1_init_85 : decode cX1_init 85 = .ok (.aload_n 0, 1) := by decide +kernel
theorem dX1_init_86 : decode cX1_init 86 = .ok (.iconst 5, 1) := by decide +kernel
theorem dX1_init_87 : decode cX1_init 87 = .ok (.newarray .int, 2) := by decide +kernel
theorem dX1_init_89 : decode cX1_init 89 = .ok (.putfield 49, 3) := by decide +kernel
theorem dX1_init_92 : decode cX1_init 92 = .ok (.aload_n 0, 1) := by decide +kernel
theorem dX1_init_93 : decode cX1_init 93 = .ok (.iconst 5, 1) := by decide +kernel
theorem dX1_init_94 : decode cX1_init 94 = .ok (.newarray .int, 2) := by decide +kernel
theorem dX1_init_96 : decode cX1_init 96 = .ok (.putfield 52, 3) := by decide +kernel
theorem dX1_init_99 : decode cX1_init 99 = .ok (.return_, 1) := by decide +kernel
theorem dX6_init_0 : decode cX6_init 0 = .ok (.aload_n 0, 1) := by decide +kernel
theorem dX6_init_1 : decode cX6_init 1 = .ok (.invokespecial 1, 3) := by decide +kernel
theorem dX6_init_4 : decode cX6_init 4 = .ok (.aload_n 0, 1) := by decide +kernel
theorem dX6_init_5 : decode cX6_init 5 = .ok (.iconst 0, 1) := by decide +kernel
theorem dX6_init_6 : decode cX6_init 6 = .ok (.putfield 7, 3) := by decide +kernel
theorem dX6_init_9 : decode cX6_init 9 = .ok (.aload_n 0, 1) := by decide +kernel
theorem dX6_init_10 : decode cX6_init 10 = .ok (.iconst 0, 1) := by decide +kernel
theorem dX6_init_11 : decode cX6_init 11 = .ok (.iload_n 1, 1) := by decide +kernel
theorem dX6_init_12 : decode cX6_init 12 = .ok (.invokestatic 13, 3) := by decide +kernel
theorem dX6_init_15 : decode cX6_init 15 = .ok (.putfield 19, 3) := by decide +kernel
theorem dX6_init_18 : decode cX6_init 18 = .ok (.aload_n 0, 1) := by decide +kernel
theorem dX6_init_19 : decode cX6_init 19 = .ok (.aload_n 0, 1) := by decide +kernel
theorem dX6_init_20 : decode cX6_init 20 = .ok (.getfield 19, 3) := by decide +kernel
theorem dX6_init_23 : decode cX6_init 23 = .ok (.newarray .int, 2) := by decide +kernel
theorem dX6_init_25 : decode cX6_init 25 = .ok (.putfield 22, 3) := by decide +kernel
theorem dX6_init_28 : decode cX6_init 28 = .ok (.aload_n 0, 1) := by decide +kernel
theorem dX6_init_29 : decode cX6_init 29 = .ok (.aload_n 0, 1) := by decide +kernel
theorem dX6_init_30 : decode cX6_init 30 = .ok (.getfield 19, 3) := by decide +kernel
theorem dX6_init_33 : decode cX6_init 33 = .ok (.newarray .int, 2) := by decide +kernel
theorem dX6_init_35 : decode cX6_init 35 = .ok (.putfield 26, 3) := by decide +kernel
theorem dX6_init_38 : decode cX6_init 38 = .ok (.return_, 1) := by decide +kernel
theorem dX7_init_0 : decode cX7_init 0 = .ok (.aload_n 0, 1) := by decide +kernel
theorem dX7_init_1 : decode cX7_init 1 = .ok (.invokespecial 3, 3) := by decide +kernel
theorem dX7_init_4 : decode cX7_init 4 = .ok (.aload_n 0, 1) := by decide +kernel
theorem dX7_init_5 : decode cX7_init 5 = .ok (.sipush 600, 3) := by decide +kernel
theorem dX7_init_8 : decode cX7_init 8 = .ok (.newarray .byte, 2) := by decide +kernel
theorem dX7_init_10 : decode cX7_init 10 = .ok (.putfield 9, 3) := by decide +kernel
theorem dX7_init_13 : decode cX7_init 13 = .ok (.aload_n 0, 1) := by decide +kernel
theorem dX7_init_14 : decode cX7_init 14 = .ok (.iconst 0, 1) := by decide +kernel
theorem dX7_init_15 : decode cX7_init 15 = .ok (.putfield 15, 3) := by decide +kernel
theorem dX7_init_18 : decode cX7_init 18 = .ok (.aload_n 0, 1) := by decide +kernel
theorem dX7_init_19 : decode cX7_init 19 = .ok (.iconst 0, 1) := by decide +kernel
theorem dX7_init_20 : decode cX7_init 20 = .ok (.putfield 19, 3) := by decide +kernel
theorem dX7_init_23 : decode cX7_init 23 = .ok (.aload_n 0, 1) := by decide +kernel
theorem dX7_init_24 : decode cX7_init 24 = .ok (.iconst (-1), 1) := by decide +kernel
theorem dX7_init_25 : decode cX7_init 25 = .ok (.putfield 22, 3) := by decide +kernel
theorem dX7_init_28 : decode cX7_init 28 = .ok (.aload_n 0, 1) := by decide +kernel
theorem dX7_init_29 : decode cX7_init 29 = .ok (.iconst 3, 1) := by decide +kernel
theorem dX7_init_30 : decode cX7_init 30 = .ok (.newarray .int, 2) := by decide +kernel
theorem dX7_init_32 : decode cX7_init 32 = .ok (.putfield 25, 3) := by decide +kernel
theorem dX7_init_35 : decode cX7_init 35 = .ok (.aload_n 0, 1) := by decide +kernel
theorem dX7_init_36 : decode cX7_init 36 = .ok (.iconst 2, 1) := by decide +kernel
theorem dX7_init_37 : decode cX7_init 37 = .ok (.anewarray 29, 3) := by decide +kernel
theorem dX7_init_40 : decode cX7_init 40 = .ok (.dup, 1) := by decide +kernel
theorem dX7_init_41 : decode cX7_init 41 = .ok (.iconst 0, 1) := by decide +kernel
theorem dX7_init_42 : decode cX7_init 42 = .ok (.new 29, 3) := by decide +kernel
theorem dX7_init_45 : decode cX7_init 45 = .ok (.dup, 1) := by decide +kernel
theorem dX7_init_46 : decode cX7_init 46 = .ok (.invokespecial 31, 3) := by decide +kernel
theorem dX7_init_49 : decode cX7_init 49 = .ok (.aastore, 1) := by decide +kernel
theorem dX7_init_50 : decode cX7_init 50 = .ok (.dup, 1) := by decide +kernel
theorem dX7_init_51 : decode cX7_init 51 = .ok (.iconst 1, 1) := by decide +kernel
theorem dX7_init_52 : decode cX7_init 52 = .ok (.new 29, 3) := by decide +kernel
theorem dX7_init_55 : decode cX7_init 55 = .ok (.dup, 1) := by decide +kernel
theorem dX7_init_56 : decode cX7_init 56 = .ok (.invokespecial 31, 3) := by decide +kernel
theorem dX7_init_59 : decode cX7_init 59 = .ok (.aastore, 1) := by decide +kernel
theorem dX7_init_60 : decode cX7_init 60 = .ok (.putfield 32, 3) := by decide +kernel
theorem dX7_init_63 : decode cX7_init 63 = .ok (.aload_n 0, 1) := by decide +kernel
theorem dX7_init_64 : decode cX7_init 64 = .ok (.iconst 2, 1) := by decide +kernel
theorem dX7_init_65 : decode cX7_init 65 = .ok (.anewarray 36, 3) := by decide +kernel
theorem dX7_init_68 : decode cX7_init 68 = .ok (.dup, 1) := by decide +kernel
theorem dX7_init_69 : decode cX7_init 69 = .ok (.iconst 0, 1) := by decide +kernel
theorem dX7_init_70 : decode cX7_init 70 = .ok (.new 36, 3) := by decide +kernel
theorem dX7_init_73 : decode cX7_init 73 = .ok (.dup, 1) := by decide +kernel
theorem dX7_init_74 : decode cX7_init 74 = .ok (.bipush 40, 2) := by decide +kernel
theorem dX7_init_76 : decode cX7_init 76 = .ok (.invokespecial 38, 3) := by decide +kernel
theorem dX7_init_79 : decode cX7_init 79 = .ok (.aastore, 1) := by decide +kernel
theorem dX7_init_80 : decode cX7_init 80 = .ok (.dup, 1) := by decide +kernel
theorem dX7_init_81 : decode cX7_init 81 = .ok (.iconst 1, 1) := by decide +kernel
theorem dX7_init_82 : decode cX7_init 82 = .ok (.new 36, 3) := by decide +kernel
theorem dX7_init_85 : decode cX7_init 85 = .ok (.dup, 1) := by decide +kernel
theorem dX7_init_86 : decode cX7_init 86 = .ok (.bipush 40, 2) := by decide +kernel
theorem dX7_init_88 : decode cX7_init 88 = .ok (.invokespecial 38, 3) := by decide +kernel
theorem dX7_init_91 : decode cX7_init 91 = .ok (.aastore, 1) := by decide +kernel
theorem dX7_init_92 : decode cX7_init 92 = .ok (.putfield 41, 3) := by decide +kernel
theorem dX7_init_95 : decode cX7_init 95 = .ok (.aload_n 0, 1) := by decide +kernel
theorem dX7_init_96 : decode cX7_init 96 = .ok (.iconst 2, 1) := by decide +kernel
theorem dX7_init_97 : decode cX7_init 97 = .ok (.anewarray 36, 3) := by decide +kernel
theorem dX7_init_100 : decode cX7_init 100 = .ok (.dup, 1) := by decide +kernel
theorem dX7_init_101 : decode cX7_init 101 = .ok (.iconst 0, 1) := by decide +kernel
theorem dX7_init_102 : decode cX7_init 102 = .ok (.new 36, 3) := by decide +kernel
theorem dX7_init_105 : decode cX7_init 105 = .ok (.dup, 1) := by decide +kernel
theorem dX7_init_106 : decode cX7_init 106 = .ok (.bipush 8, 2) := by decide +kernel
theorem dX7_init_108 : decode cX7_init 108 = .ok (.invokespecial 38, 3) := by decide +kernel
theorem dX7_init_111 : decode cX7_init 111 = .ok (.aastore, 1) := by decide +kernel
theorem dX7_init_112 : decode cX7_init 112 = .ok (.dup, 1) := by decide +kernel
theorem dX7_init_113 : decode cX7_init 113 = .ok (.iconst 1, 1) := by decide +kernel
theorem dX7_init_114 : decode cX7_init 114 = .ok (.new 36, 3) := by decide +kernel
theorem dX7_init_117 : decode cX7_init 117 = .ok (.dup, 1) := by decide +kernel
theorem dX7_init_118 : decode cX7_init 118 = .ok (.bipush 8, 2) := by decide +kernel
theorem dX7_init_120 : decode cX7_init 120 = .ok (.invokespecial 38, 3) := by decide +kernel
theorem dX7_init_123 : decode cX7_init 123 = .ok (.aastore, 1) := by decide +kernel
theorem dX7_init_124 : decode cX7_init 124 = .ok (.putfield 45, 3) := by decide +kernel
theorem dX7_init_127 : decode cX7_init 127 = .ok (.return_, 1) := by decide +kernel
theorem dX0_init_0 : decode cX0_init 0 = .ok (.aload_n 0, 1) := by decide +kernel
theorem dX0_init_1 : decode cX0_init 1 = .ok (.invokespecial 3, 3) := by decide +kernel
theorem dX0_init_4 : decode cX0_init 4 = .ok (.aload_n 0, 1) := by decide +kernel
theorem dX0_init_5 : decode cX0_init 5 = .ok (.new 9, 3) := by decide +kernel
theorem dX0_init_8 : decode cX0_init 8 = .ok (.dup, 1) := by decide +kernel
theorem dX0_init_9 : decode cX0_init 9 = .ok (.invokespecial 11, 3) := by decide +kernel
theorem dX0_init_12 : decode cX0_init 12 = .ok (.putfield 12, 3) := by decide +kernel
theorem dX0_init_15 : decode cX0_init 15 = .ok (.aload_n 0, 1) := by decide +kernel
theorem dX0_init_16 : decode cX0_init 16 = .ok (.bipush 8, 2) := by decide +kernel
theorem dX0_init_18 : decode cX0_init 18 = .ok (.newarray .int, 2) := by decide +kernel
theorem dX0_init_20 : decode cX0_init 20 = .ok (.putfield 18, 3) := by decide +kernel
theorem dX0_init_23 : decode cX0_init 23 = .ok (.return_, 1) := by decide +kernel
theorem dX2_init_0 : decode cX2_init 0 = .ok (.aload_n 0, 1) := by decide +kernel
theorem dX2_init_1 : decode cX2_init 1 = .ok (.invokespecial 3, 3) := by decide +kernel
theorem dX2_init_4 : decode cX2_init 4 = .ok (.aload_n 0, 1) := by decide +kernel
theorem dX2_init_5 : decode cX2_init 5 = .ok (.bipush 6, 2) := by decide +kernel
theorem dX2_init_7 : decode cX2_init 7 = .ok (.newarray .int, 2) := by decide +kernel
theorem dX2_init_9 : decode cX2_init 9 = .ok (.putfield 9, 3) := by decide +kernel
theorem dX2_init_12 : decode cX2_init 12 = .ok (.aload_n 0, 1) := by decide +kernel
theorem dX2_init_13 : decode cX2_init 13 = .ok (.iconst 0, 1) := by decide +kernel
theorem dX2_init_14 : decode cX2_init 14 = .ok (.putfield 15, 3) := by decide +kernel
theorem dX2_init_17 : decode cX2_init 17 = .ok (.return_, 1) := by decide +kernel
theorem dX3_init_0 : decode cX3_init 0 = .ok (.aload_n 0, 1) := by decide +kernel
theorem dX3_init_1 : decode cX3_init 1 = .ok (.invokespecial 3, 3) := by decide +kernel
theorem dX3_init_4 : decode cX3_init 4 = .ok (.aload_n 0, 1) := by decide +kernel
theorem dX3_init_5 : decode cX3_init 5 = .ok (.new 9, 3) := by decide +kernel
theorem dX3_init_8 : decode cX3_init 8 = .ok (.dup, 1) := by decide +kernel
theorem dX3_init_9 : decode cX3_init 9 = .ok (.invokespecial 11, 3) := by decide +kernel
theorem dX3_init_12 : decode cX3_init 12 = .ok (.putfield 12, 3) := by decide +kernel
theorem dX3_init_15 : decode cX3_init 15 = .ok (.aload_n 0, 1) := by decide +kernel
theorem dX3_init_16 : decode cX3_init 16 = .ok (.iconst 0, 1) := by decide +kernel
theorem dX3_init_17 : decode cX3_init 17 = .ok (.putfield 18, 3) := by decide +kernel
theorem dX3_init_20 : decode cX3_init 20 = .ok (.aload_n 0, 1) := by decide +kernel
theorem dX3_init_21 : decode cX3_init 21 = .ok (.iconst (-1), 1) := by decide +kernel
theorem dX3_init_22 : decode cX3_init 22 = .ok (.putfield 22, 3) := by decide +kernel
theorem dX3_init_25 : decode cX3_init 25 = .ok (.aload_n 0, 1) := by decide +kernel
theorem dX3_init_26 : decode cX3_init 26 = .ok (.iconst 0, 1) := by decide +kernel
theorem dX3_init_27 : decode cX3_init 27 = .ok (.putfield 25, 3) := by decide +kernel
theorem dX3_init_30 : decode cX3_init 30 = .ok (.aload_n 0, 1) := by decide +kernel
theorem dX3_init_31 : decode cX3_init 31 = .ok (.iconst 0, 1) := by decide +kernel
theorem dX3_init_32 : decode cX3_init 32 = .ok (.putfield 28, 3) := by decide +kernel
theorem dX3_init_35 : decode cX3_init 35 = .ok (.aload_n 0, 1) := by decide +kernel
theorem dX3_init_36 : decode cX3_init 36 = .ok (.iconst 0, 1) := by decide +kernel
theorem dX3_init_37 : decode cX3_init 37 = .ok (.putfield 31, 3) := by decide +kernel
theorem dX3_init_40 : decode cX3_init 40 = .ok (.aload_n 0, 1) := by decide +kernel
theorem dX3_init_41 : decode cX3_init 41 = .ok (.iconst 0, 1) := by decide +kernel
theorem dX3_init_42 : decode cX3_init 42 = .ok (.putfield 34, 3) := by decide +kernel
theorem dX3_init_45 : decode cX3_init 45 = .ok (.aload_n 0, 1) := by decide +kernel
theorem dX3_init_46 : decode cX3_init 46 = .ok (.iconst 0, 1) := by decide +kernel
theorem dX3_init_47 : decode cX3_init 47 = .ok (.putfield 37, 3) := by decide +kernel
theorem dX3_init_50 : decode cX3_init 50 = .ok (.aload_n 0, 1) := by decide +kernel
theorem dX3_init_51 : decode cX3_init 51 = .ok (.iconst 0, 1) := by decide +kernel
theorem dX3_init_52 : decode cX3_init 52 = .ok (.putfield 40, 3) := by decide +kernel
theorem dX3_init_55 : decode cX3_init 55 = .ok (.aload_n 0, 1) := by decide +kernel
theorem dX3_init_56 : decode cX3_init 56 = .ok (.iconst (-1), 1) := by decide +kernel
theorem dX3_init_57 : decode cX3_init 57 = .ok (.putfield 43, 3) := by decide +kernel
theorem dX3_init_60 : decode cX3_init 60 = .ok (.aload_n 0, 1) := by decide +kernel
theorem dX3_init_61 : decode cX3_init 61 = .ok (.iconst (-1), 1) := by decide +kernel
theorem dX3_init_62 : decode cX3_init 62 = .ok (.putfield 46, 3) := by decide +kernel
theorem dX3_init_65 : decode cX3_init 65 = .ok (.aload_n 0, 1) := by decide +kernel
theorem dX3_init_66 : decode cX3_init 66 = .ok (.iconst 5, 1) := by decide +kernel
theorem dX3_init_67 : decode cX3_init 67 = .ok (.newarray .int, 2) := by decide +kernel
theorem dX3_init_69 : decode cX3_init 69 = .ok (.putfield 49, 3) := by decide +kernel
theorem dX3_init_72 : decode cX3_init 72 = .ok (.aload_n 0, 1) := by decide +kernel
theorem dX3_init_73 : decode cX3_init 73 = .ok (.iconst 5, 1) := by decide +kernel
theorem dX3_init_74 : decode cX3_init 74 = .ok (.newarray .int, 2) := by decide +kernel
theorem dX3_init_76 : decode cX3_init 76 = .ok (.putfield 53, 3) := by decide +kernel
theorem dX3_init_79 : decode cX3_init 79 = .ok (.aload_n 0, 1) := by decide +kernel
theorem dX3_init_80 : decode cX3_init 80 = .ok (.iconst 0, 1) := by decide +kernel
theorem dX3_init_81 : decode cX3_init 81 = .ok (.putfield 56, 3) := by decide +kernel
theorem dX3_init_84 : decode cX3_init 84 = .ok (.aload_n 0, 1) := by decide +kernel
theorem dX3_init_85 : decode cX3_init 85 = .ok (.iconst 0, 1) := by decide +kernel
theorem dX3_init_86 : decode cX3_init 86 = .ok (.putfield 59, 3) := by decide +kernel
theorem dX3_init_89 : decode cX3_init 89 = .ok (.aload_n 0, 1) := by decide +kernel
theorem dX3_init_90 : decode cX3_init 90 = .ok (.iconst 0, 1) := by decide +kernel
theorem dX3_init_91 : decode cX3_init 91 = .ok (.putfield 62, 3) := by decide +kernel
theorem dX3_init_94 : decode cX3_init 94 = .ok (.aload_n 0, 1) := by decide +kernel
theorem dX3_init_95 : decode cX3_init 95 = .ok (.iconst (-1), 1) := by decide +kernel
theorem dX3_init_96 : decode cX3_init 96 = .ok (.putfield 65, 3) := by decide +kernel
theorem dX3_init_99 : decode cX3_init 99 = .ok (.aload_n 0, 1) := by decide +kernel
theorem dX3_init_100 : decode cX3_init 100 = .ok (.iconst (-1), 1) := by decide +kernel
theorem dX3_init_101 : decode cX3_init 101 = .ok (.putfield 68, 3) := by decide +kernel
theorem dX3_init_104 : decode cX3_init 104 = .ok (.aload_n 0, 1) := by decide +kernel
theorem dX3_init_105 : decode cX3_init 105 = .ok (.iconst 0, 1) := by decide +kernel
theorem dX3_init_106 : decode cX3_init 106 = .ok (.putfield 71, 3) := by decide +kernel
theorem dX3_init_109 : decode cX3_init 109 = .ok (.return_, 1) := by decide +kernel
theorem dX4_init_0 : decode cX4_init 0 = .ok (.aload_n 0, 1) := by decide +kernel
theorem dX4_init_1 : decode cX4_init 1 = .ok (.invokespecial 3, 3) := by decide +kernel
theorem dX4_init_4 : decode cX4_init 4 = .ok (.aload_n 0, 1) := by decide +kernel
theorem dX4_init_5 : decode cX4_init 5 = .ok (.new 9, 3) := by decide +kernel
theorem dX4_init_8 : decode cX4_init 8 = .ok (.dup, 1) := by decide +kernel
theorem dX4_init_9 : decode cX4_init 9 = .ok (.invokespecial 11, 3) := by decide +kernel
theorem dX4_init_12 : decode cX4_init 12 = .ok (.putfield 12, 3) := by decide +kernel
theorem dX4_init_15 : decode cX4_init 15 = .ok (.aload_n 0, 1) := by decide +kernel
theorem dX4_init_16 : decode cX4_init 16 = .ok (.new 18, 3) := by decide +kernel
theorem dX4_init_19 : decode cX4_init 19 = .ok (.dup, 1) := by decide +kernel
theorem dX4_init_20 : decode cX4_init 20 = .ok (.bipush 40, 2) := by decide +kernel
theorem dX4_init_22 : decode cX4_init 22 = .ok (.invokespecial 20, 3) := by decide +kernel
theorem dX4_init_25 : decode cX4_init 25 = .ok (.putfield 23, 3) := by decide +kernel
theorem dX4_init_28 : decode cX4_init 28 = .ok (.aload_n 0, 1) := by decide +kernel
theorem dX4_init_29 : decode cX4_init 29 = .ok (.iconst 0, 1) := by decide +kernel
theorem dX4_init_30 : decode cX4_init 30 = .ok (.putfield 27, 3) := by decide +kernel
theorem dX4_init_33 : decode cX4_init 33 = .ok (.aload_n 0, 1) := by decide +kernel
theorem dX4_init_34 : decode cX4_init 34 = .ok (.iconst (-1), 1) := by decide +kernel
theorem dX4_init_35 : decode cX4_init 35 = .ok (.putfield 31, 3) := by decide +kernel
theorem dX4_init_38 : decode cX4_init 38 = .ok (.aload_n 0, 1) := by decide +kernel
theorem dX4_init_39 : decode cX4_init 39 = .ok (.aconst_null, 1) := by decide +kernel
theorem dX4_init_40 : decode cX4_init 40 = .ok (.putfield 34, 3) := by decide +kernel
theorem dX4_init_43 : decode cX4_init 43 = .ok (.aload_n 0, 1) := by decide +kernel
theorem dX4_init_44 : decode cX4_init 44 = .ok (.iconst 0, 1) := by decide +kernel
theorem dX4_init_45 : decode cX4_init 45 = .ok (.putfield 38, 3) := by decide +kernel
theorem dX4_init_48 : decode cX4_init 48 = .ok (.aload_n 0, 1) := by decide +kernel
theorem dX4_init_49 : decode cX4_init 49 = .ok (.iconst 0, 1) := by decide +kernel
theorem dX4_init_50 : decode cX4_init 50 = .ok (.putfield 41, 3) := by decide +kernel
theorem dX4_init_53 : decode cX4_init 53 = .ok (.aload_n 0, 1) := by decide +kernel
theorem dX4_init_54 : decode cX4_init 54 = .ok (.iconst 0, 1) := by decide +kernel
theorem dX4_init_55 : decode cX4_init 55 = .ok (.putfield 44, 3) := by decide +kernel
theorem dX4_init_58 : decode cX4_init 58 = .ok (.aload_n 0, 1) := by decide +kernel
theorem dX4_init_59 : decode cX4_init 59 = .ok (.iconst 0, 1) := by decide +kernel
theorem dX4_init_60 : decode cX4_init 60 = .ok (.putfield 47, 3) := by decide +kernel
theorem dX4_init_63 : decode cX4_init 63 = .ok (.aload_n 0, 1) := by decide +kernel
theorem dX4_init_64 : decode cX4_init 64 = .ok (.iconst 0, 1) := by decide +kernel
theorem dX4_init_65 : decode cX4_init 65 = .ok (.putfield 50, 3) := by decide +kernel
theorem dX4_init_68 : decode cX4_init 68 = .ok (.aload_n 0, 1) := by decide +kernel
theorem dX4_init_69 : decode cX4_init 69 = .ok (.iconst 4, 1) := by decide +kernel
theorem dX4_init_70 : decode cX4_init 70 = .ok (.newarray .int, 2) := by decide +kernel
theorem dX4_init_72 : decode cX4_init 72 = .ok (.putfield 53, 3) := by decide +kernel
theorem dX4_init_75 : decode cX4_init 75 = .ok (.return_, 1) := by decide +kernel
theorem dX5_init_0 : decode cX5_init 0 = .ok (.aload_n 0, 1) := by decide +kernel
theorem dX5_init_1 : decode cX5_init 1 = .ok (.invokespecial 3, 3) := by decide +kernel
theorem dX5_init_4 : decode cX5_init 4 = .ok (.aload_n 0, 1) := by decide +kernel
theorem dX5_init_5 : decode cX5_init 5 = .ok (.new 9, 3) := by decide +kernel
theorem dX5_init_8 : decode cX5_init 8 = .ok (.dup, 1) := by decide +kernel
theorem dX5_init_9 : decode cX5_init 9 = .ok (.invokespecial 11, 3) := by decide +kernel
theorem dX5_init_12 : decode cX5_init 12 = .ok (.putfield 12, 3) := by decide +kernel
theorem dX5_init_15 : decode cX5_init 15 = .ok (.aload_n 0, 1) := by decide +kernel
theorem dX5_init_16 : decode cX5_init 16 = .ok (.iconst 0, 1) := by decide +kernel
theorem dX5_init_17 : decode cX5_init 17 = .ok (.putfield 18, 3) := by decide +kernel
theorem dX5_init_20 : decode cX5_init 20 = .ok (.aload_n 0, 1) := by decide +kernel
theorem dX5_init_21 : decode cX5_init 21 = .ok (.iconst 0, 1) := by decide +kernel
theorem dX5_init_22 : decode cX5_init 22 = .ok (.putfield 22, 3) := by decide +kernel
theorem dX5_init_25 : decode cX5_init 25 = .ok (.aload_n 0, 1) := by decide +kernel
theorem dX5_init_26 : decode cX5_init 26 = .ok (.bipush 6, 2) := by decide +kernel
theorem dX5_init_28 : decode cX5_init 28 = .ok (.newarray .int, 2) := by decide +kernel
theorem dX5_init_30 : decode cX5_init 30 = .ok (.putfield 25, 3) := by decide +kernel
theorem dX5_init_33 : decode cX5_init 33 = .ok (.aload_n 0, 1) := by decide +kernel
theorem dX5_init_34 : decode cX5_init 34 = .ok (.bipush 8, 2) := by decide +kernel
theorem dX5_init_36 : decode cX5_init 36 = .ok (.newarray .int, 2) := by decide +kernel
theorem dX5_init_38 : decode cX5_init 38 = .ok (.putfield 29, 3) := by decide +kernel
theorem dX5_init_41 : decode cX5_init 41 = .ok (.aload_n 0, 1) := by decide +kernel
theorem dX5_init_42 : decode cX5_init 42 = .ok (.bipush 9, 2) := by decide +kernel
theorem dX5_init_44 : decode cX5_init 44 = .ok (.newarray .int, 2) := by decide +kernel
theorem dX5_init_46 : decode cX5_init 46 = .ok (.putfield 32, 3) := by decide +kernel
theorem dX5_init_49 : decode cX5_init 49 = .ok (.return_, 1) := by decide +kernel
theorem dX8_init_0 : decode cX8_init 0 = .ok (.aload_n 0, 1) := by decide +kernel
theorem dX8_init_1 : decode cX8_init 1 = .ok (.invokespecial 3, 3) := by decide +kernel
theorem dX8_init_4 : decode cX8_init 4 = .ok (.aload_n 0, 1) := by decide +kernel
theorem dX8_init_5 : decode cX8_init 5 = .ok (.new 9, 3) := by decide +kernel
theorem dX8_init_8 : decode cX8_init 8 = .ok (.dup, 1) := by decide +kernel
theorem dX8_init_9 : decode cX8_init 9 = .ok (.invokespecial 11, 3) := by decide +kernel
theorem dX8_init_12 : decode cX8_init 12 = .ok (.putfield 12, 3) := by decide +kernel
theorem dX8_init_15 : decode cX8_init 15 = .ok (.aload_n 0, 1) := by decide +kernel
theorem dX8_init_16 : decode cX8_init 16 = .ok (.bipush 8, 2) := by decide +kernel
theorem dX8_init_18 : decode cX8_init 18 = .ok (.newarray .int, 2) := by decide +kernel
theorem dX8_init_20 : decode cX8_init 20 = .ok (.putfield 18, 3) := by decide +kernel
theorem dX8_init_23 : decode cX8_init 23 = .ok (.aload_n 0, 1) := by decide +kernel
theorem dX8_init_24 : decode cX8_init 24 = .ok (.bipush 10, 2) := by decide +kernel
theorem dX8_init_26 : decode cX8_init 26 = .ok (.newarray .int, 2) := by decide +kernel
theorem dX8_init_28 : decode cX8_init 28 = .ok (.putfield 22, 3) := by decide +kernel
theorem dX8_init_31 : decode cX8_init 31 = .ok (.aload_n 0, 1) := by decide +kernel
theorem dX8_init_32 : decode cX8_init 32 = .ok (.bipush 10, 2) := by decide +kernel
theorem dX8_init_34 : decode cX8_init 34 = .ok (.newarray .int, 2) := by decide +kernel
theorem dX8_init_36 : decode cX8_init 36 = .ok (.putfield 25, 3) := by decide +kernel
theorem dX8_init_39 : decode cX8_init 39 = .ok (.return_, 1) := by decide +kernel
theorem dX9_init_0 : decode cX9_init 0 = .ok (.aload_n 0, 1) := by decide +kernel
theorem dX9_init_1 : decode cX9_init 1 = .ok (.invokespecial 3, 3) := by decide +kernel
theorem dX9_init_4 : decode cX9_init 4 = .ok (.aload_n 0, 1) := by decide +kernel
theorem dX9_init_5 : decode cX9_init 5 = .ok (.new 9, 3) := by decide +kernel
theorem dX9_init_8 : decode cX9_init 8 = .ok (.dup, 1) := by decide +kernel
theorem dX9_init_9 : decode cX9_init 9 = .ok (.invokespecial 11, 3) := by decide +kernel
theorem dX9_init_12 : decode cX9_init 12 = .ok (.putfield 12, 3) := by decide +kernel
theorem dX9_init_15 : decode cX9_init 15 = .ok (.aload_n 0, 1) := by decide +kernel
theorem dX9_init_16 : decode cX9_init 16 = .ok (.iconst 0, 1) := by decide +kernel
theorem dX9_init_17 : decode cX9_init 17 = .ok (.putfield 18, 3) := by decide +kernel
theorem dX9_init_20 : decode cX9_init 20 = .ok (.aload_n 0, 1) := by decide +kernel
theorem dX9_init_21 : decode cX9_init 21 = .ok (.iconst 0, 1) := by decide +kernel
theorem dX9_init_22 : decode cX9_init 22 = .ok (.putfield 22, 3) := by decide +kernel
theorem dX9_init_25 : decode cX9_init 25 = .ok (.aload_n 0, 1) := by decide +kernel
theorem dX9_init_26 : decode cX9_init 26 = .ok (.iconst 0, 1) := by decide +kernel
theorem dX9_init_27 : decode cX9_init 27 = .ok (.putfield 25, 3) := by decide +kernel
theorem dX9_init_30 : decode cX9_init 30 = .ok (.aload_n 0, 1) := by decide +kernel
theorem dX9_init_31 : decode cX9_init 31 = .ok (.iconst 0, 1) := by decide +kernel
theorem dX9_init_32 : decode cX9_init 32 = .ok (.putfield 28, 3) := by decide +kernel
theorem dX9_init_35 : decode cX9_init 35 = .ok (.aload_n 0, 1) := by decide +kernel
theorem dX9_init_36 : decode cX9_init 36 = .ok (.iconst (-1), 1) := by decide +kernel
theorem dX9_init_37 : decode cX9_init 37 = .ok (.putfield 31, 3) := by decide +kernel
theorem dX9_init_40 : decode cX9_init 40 = .ok (.return_, 1) := by decide +kernel
theorem dX10_init_0 : decode cX10_init 0 = .ok (.aload_n 0, 1) := by decide +kernel
theorem dX10_init_1 : decode cX10_init 1 = .ok (.invokespecial 1, 3) := by decide +kernel
theorem dX10_init_4 : decode cX10_init 4 = .ok (.aload_n 0, 1) := by decide +kernel
theorem dX10_init_5 : decode cX10_init 5 = .ok (.new 7, 3) := by decide +kernel
theorem dX10_init_8 : decode cX10_init 8 = .ok (.dup, 1) := by decide +kernel
theorem dX10_init_9 : decode cX10_init 9 = .ok (.invokespecial 9, 3) := by decide +kernel
theorem dX10_init_12 : decode cX10_init 12 = .ok (.putfield 10, 3) := by decide +kernel
theorem dX10_init_15 : decode cX10_init 15 = .ok (.aload_n 0, 1) := by decide +kernel
theorem dX10_init_16 : decode cX10_init 16 = .ok (.iconst 3, 1) := by decide +kernel
theorem dX10_init_17 : decode cX10_init 17 = .ok (.anewarray 7, 3) := by decide +kernel
theorem dX10_init_20 : decode cX10_init 20 = .ok (.dup, 1) := by decide +kernel
theorem dX10_init_21 : decode cX10_init 21 = .ok (.iconst 0, 1) := by decide +kernel
theorem dX10_init_22 : decode cX10_init 22 = .ok (.new 7, 3) := by decide +kernel
theorem dX10_init_25 : decode cX10_init 25 = .ok (.dup, 1) := by decide +kernel
theorem dX10_init_26 : decode cX10_init 26 = .ok (.invokespecial 9, 3) := by decide +kernel
theorem dX10_init_29 : decode cX10_init 29 = .ok (.aastore, 1) := by decide +kernel
theorem dX10_init_30 : decode cX10_init 30 = .ok (.dup, 1) := by decide +kernel
theorem dX10_init_31 : decode cX10_init 31 = .ok (.iconst 1, 1) := by decide +kernel
theorem dX10_init_32 : decode cX10_init 32 = .ok (.new 7, 3) := by decide +kernel
theorem dX10_init_35 : decode cX10_init 35 = .ok (.dup, 1) := by decide +kernel
theorem dX10_init_36 : decode cX10_init 36 = .ok (.invokespecial 9, 3) := by decide +kernel
theorem dX10_init_39 : decode cX10_init 39 = .ok (.aastore, 1) := by decide +kernel
theorem dX10_init_40 : decode cX10_init 40 = .ok (.dup, 1) := by decide +kernel
theorem dX10_init_41 : decode cX10_init 41 = .ok (.iconst 2, 1) := by decide +kernel
theorem dX10_init_42 : decode cX10_init 42 = .ok (.new 7, 3) := by decide +kernel
theorem dX10_init_45 : decode cX10_init 45 = .ok (.dup, 1) := by decide +kernel
theorem dX10_init_46 : decode cX10_init 46 = .ok (.invokespecial 9, 3) := by decide +kernel
theorem dX10_init_49 : decode cX10_init 49 = .ok (.aastore, 1) := by decide +kernel
theorem dX10_init_50 : decode cX10_init 50 = .ok (.putfield 16, 3) := by decide +kernel
theorem dX10_init_53 : decode cX10_init 53 = .ok (.aload_n 0, 1) := by decide +kernel
theorem dX10_init_54 : decode cX10_init 54 = .ok (.iconst 3, 1) := by decide +kernel
theorem dX10_init_55 : decode cX10_init 55 = .ok (.newarray .boolean, 2) := by decide +kernel
theorem dX10_init_57 : decode cX10_init 57 = .ok (.putfield 20, 3) := by decide +kernel
theorem dX10_init_60 : decode cX10_init 60 = .ok (.aload_n 0, 1) := by decide +kernel
theorem dX10_init_61 : decode cX10_init 61 = .ok (.new 24, 3) := by decide +kernel
theorem dX10_init_64 : decode cX10_init 64 = .ok (.dup, 1) := by decide +kernel
theorem dX10_init_65 : decode cX10_init 65 = .ok (.invokespecial 26, 3) := by decide +kernel
theorem dX10_init_68 : decode cX10_init 68 = .ok (.putfield 27, 3) := by decide +kernel
theorem dX10_init_71 : decode cX10_init 71 = .ok (.aload_n 0, 1) := by decide +kernel
theorem dX10_init_72 : decode cX10_init 72 = .ok (.new 31, 3) := by decide +kernel
theorem dX10_init_75 : decode cX10_init 75 = .ok (.dup, 1) := by decide +kernel
theorem dX10_init_76 : decode cX10_init 76 = .ok (.invokespecial 33, 3) := by decide +kernel
theorem dX10_init_79 : decode cX10_init 79 = .ok (.putfield 34, 3) := by decide +kernel
theorem dX10_init_82 : decode cX10_init 82 = .ok (.aload_n 0, 1) := by decide +kernel
theorem dX10_init_83 : decode cX10_init 83 = .ok (.new 38, 3) := by decide +kernel
theorem dX10_init_86 : decode cX10_init 86 = .ok (.dup, 1) := by decide +kernel
theorem dX10_init_87 : decode cX10_init 87 = .ok (.invokespecial 40, 3) := by decide +kernel
theorem dX10_init_90 : decode cX10_init 90 = .ok (.putfield 41, 3) := by decide +kernel
theorem dX10_init_93 : decode cX10_init 93 = .ok (.aload_n 0, 1) := by decide +kernel
theorem dX10_init_94 : decode cX10_init 94 = .ok (.new 45, 3) := by decide +kernel
theorem dX10_init_97 : decode cX10_init 97 = .ok (.dup, 1) := by decide +kernel
theorem dX10_init_98 : decode cX10_init 98 = .ok (.invokespecial 47, 3) := by decide +kernel
theorem dX10_init_101 : decode cX10_init 101 = .ok (.putfield 48, 3) := by decide +kernel
theorem dX10_init_104 : decode cX10_init 104 = .ok (.aload_n 0, 1) := by decide +kernel
theorem dX10_init_105 : decode cX10_init 105 = .ok (.new 52, 3) := by decide +kernel
theorem dX10_init_108 : decode cX10_init 108 = .ok (.dup, 1) := by decide +kernel
theorem dX10_init_109 : decode cX10_init 109 = .ok (.invokespecial 54, 3) := by decide +kernel
theorem dX10_init_112 : decode cX10_init 112 = .ok (.putfield 55, 3) := by decide +kernel
theorem dX10_init_115 : decode cX10_init 115 = .ok (.aload_n 0, 1) := by decide +kernel
theorem dX10_init_116 : decode cX10_init 116 = .ok (.new 59, 3) := by decide +kernel
theorem dX10_init_119 : decode cX10_init 119 = .ok (.dup, 1) := by decide +kernel
theorem dX10_init_120 : decode cX10_init 120 = .ok (.invokespecial 61, 3) := by decide +kernel
theorem dX10_init_123 : decode cX10_init 123 = .ok (.putfield 62, 3) := by decide +kernel
theorem dX10_init_126 : decode cX10_init 126 = .ok (.aload_n 0, 1) := by decide +kernel
theorem dX10_init_127 : decode cX10_init 127 = .ok (.new 66, 3) := by decide +kernel
theorem dX10_init_130 : decode cX10_init 130 = .ok (.dup, 1) := by decide +kernel
theorem dX10_init_131 : decode cX10_init 131 = .ok (.invokespecial 68, 3) := by decide +kernel
theorem dX10_init_134 : decode cX10_init 134 = .ok (.putfield 69, 3) := by decide +kernel
theorem dX10_init_137 : decode cX10_init 137 = .ok (.return_, 1) := by decide +kernel
theorem dX11_init_0 : decode cX11_init 0 = .ok (.aload_n 0, 1) := by decide +kernel
theorem dX11_init_1 : decode cX11_init 1 = .ok (.invokespecial 1, 3) := by decide +kernel
theorem dX11_init_4 : decode cX11_init 4 = .ok (.aload_n 0, 1) := by decide +kernel
theorem dX11_init_5 : decode cX11_init 5 = .ok (.sipush 3736, 3) := by decide +kernel
theorem dX11_init_8 : decode cX11_init 8 = .ok (.newarray .int, 2) := by decide +kernel
theorem dX11_init_10 : decode cX11_init 10 = .ok (.putfield 7, 3) := by decide +kernel
theorem dX11_init_13 : decode cX11_init 13 = .ok (.aload_n 0, 1) := by decide +kernel
theorem dX11_init_14 : decode cX11_init 14 = .ok (.iconst 3, 1) := by decide +kernel
theorem dX11_init_15 : decode cX11_init 15 = .ok (.newarray .boolean, 2) := by decide +kernel
theorem dX11_init_17 : decode cX11_init 17 = .ok (.putfield 13, 3) := by decide +kernel
theorem dX11_init_20 : decode cX11_init 20 = .ok (.aload_n 0, 1) := by decide +kernel
theorem dX11_init_21 : decode cX11_init 21 = .ok (.bipush 81, 2) := by decide +kernel
theorem dX11_init_23 : decode cX11_init 23 = .ok (.newarray .int, 2) := by decide +kernel
theorem dX11_init_25 : decode cX11_init 25 = .ok (.putfield 17, 3) := by decide +kernel
theorem dX11_init_28 : decode cX11_init 28 = .ok (.aload_n 0, 1) := by decide +kernel
theorem dX11_init_29 : decode cX11_init 29 = .ok (.bipush 8, 2) := by decide +kernel
theorem dX11_init_31 : decode cX11_init 31 = .ok (.newarray .int, 2) := by decide +kernel
theorem dX11_init_33 : decode cX11_init 33 = .ok (.putfield 20, 3) := by decide +kernel
theorem dX11_init_36 : decode cX11_init 36 = .ok (.aload_n 0, 1) := by decide +kernel
theorem dX11_init_37 : decode cX11_init 37 = .ok (.bipush 8, 2) := by decide +kernel
theorem dX11_init_39 : decode cX11_init 39 = .ok (.newarray .int, 2) := by decide +kernel
theorem dX11_init_41 : decode cX11_init 41 = .ok (.putfield 23, 3) := by decide +kernel
theorem dX11_init_44 : decode cX11_init 44 = .ok (.aload_n 0, 1) := by decide +kernel
theorem dX11_init_45 : decode cX11_init 45 = .ok (.bipush 6, 2) := by decide +kernel
theorem dX11_init_47 : decode cX11_init 47 = .ok (.newarray .int, 2) := by decide +kernel
theorem dX11_init_49 : decode cX11_init 49 = .ok (.putfield 26, 3) := by decide +kernel
theorem dX11_init_52 : decode cX11_init 52 = .ok (.aload_n 0, 1) := by decide +kernel
theorem dX11_init_53 : decode cX11_init 53 = .ok (.bipush 6, 2) := by decide +kernel
theorem dX11_init_55 : decode cX11_init 55 = .ok (.newarray .int, 2) := by decide +kernel
theorem dX11_init_57 : decode cX11_init 57 = .ok (.putfield 29, 3) := by decide +kernel
theorem dX11_init_60 : decode cX11_init 60 = .ok (.aload_n 0, 1) := by decide +kernel
theorem dX11_init_61 : decode cX11_init 61 = .ok (.bipush 8, 2) := by decide +kernel
theorem dX11_init_63 : decode cX11_init 63 = .ok (.newarray .int, 2) := by decide +kernel
theorem dX11_init_65 : decode cX11_init 65 = .ok (.putfield 32, 3) := by decide +kernel
theorem dX11_init_68 : decode cX11_init 68 = .ok (.aload_n 0, 1) := by decide +kernel
theorem dX11_init_69 : decode cX11_init 69 = .ok (.bipush 8, 2) := by decide +kernel
theorem dX11_init_71 : decode cX11_init 71 = .ok (.newarray .int, 2) := by decide +kernel
theorem dX11_init_73 : decode cX11_init 73 = .ok (.putfield 35, 3) := by decide +kernel
theorem dX11_init_76 : decode cX11_init 76 = .ok (.aload_n 0, 1) := by decide +kernel
theorem dX11_init_77 : decode cX11_init 77 = .ok (.bipush 6, 2) := by decide +kernel
theorem dX11_init_79 : decode cX11_init 79 = .ok (.newarray .int, 2) := by decide +kernel
theorem dX11_init_81 : decode cX11_init 81 = .ok (.putfield 38, 3) := by decide +kernel
theorem dX11_init_84 : decode cX11_init 84 = .ok (.aload_n 0, 1) := by decide +kernel
theorem dX11_init_85 : decode cX11_init 85 = .ok (.bipush 6, 2) := by decide +kernel
theorem dX11_init_87 : decode cX11_init 87 = .ok (.newarray .int, 2) := by decide +kernel
theorem dX11_init_89 : decode cX11_init 89 = .ok (.putfield 41, 3) := by decide +kernel
theorem dX11_init_92 : decode cX11_init 92 = .ok (.aload_n 0, 1) := by decide +kernel
theorem dX11_init_93 : decode cX11_init 93 = .ok (.bipush 6, 2) := by decide +kernel
theorem dX11_init_95 : decode cX11_init 95 = .ok (.newarray .int, 2) := by decide +kernel
theorem dX11_init_97 : decode cX11_init 97 = .ok (.putfield 44, 3) := by decide +kernel
theorem dX11_init_100 : decode cX11_init 100 = .ok (.aload_n 0, 1) := by decide +kernel
theorem dX11_init_101 : decode cX11_init 101 = .ok (.bipush 6, 2) := by decide +kernel
theorem dX11_init_103 : decode cX11_init 103 = .ok (.newarray .int, 2) := by decide +kernel
theorem dX11_init_105 : decode cX11_init 105 = .ok (.putfield 47, 3) := by decide +kernel
theorem dX11_init_108 : decode cX11_init 108 = .ok (.aload_n 0, 1) := by decide +kernel
theorem dX11_init_109 : decode cX11_init 109 = .ok (.bipush 80, 2) := by decide +kernel
theorem dX11_init_111 : decode cX11_init 111 = .ok (.newarray .int, 2) := by decide +kernel
theorem dX11_init_113 : decode cX11_init 113 = .ok (.putfield 50, 3) := by decide +kernel
theorem dX11_init_116 : decode cX11_init 116 = .ok (.aload_n 0, 1) := by decide +kernel
theorem dX11_init_117 : decode cX11_init 117 = .ok (.bipush 80, 2) := by decide +kernel
theorem dX11_init_119 : decode cX11_init 119 = .ok (.newarray .boolean, 2) := by decide +kernel
theorem dX11_init_121 : decode cX11_init 121 = .ok (.putfield 53, 3) := by decide +kernel
theorem dX11_init_124 : decode cX11_init 124 = .ok (.aload_n 0, 1) := by decide +kernel
theorem dX11_init_125 : decode cX11_init 125 = .ok (.iconst 5, 1) := by decide +kernel
theorem dX11_init_126 : decode cX11_init 126 = .ok (.newarray .int, 2) := by decide +kernel
theorem dX11_init_128 : decode cX11_init 128 = .ok (.putfield 56, 3) := by decide +kernel
theorem dX11_init_131 : decode cX11_init 131 = .ok (.aload_n 0, 1) := by decide +kernel
theorem dX11_init_132 : decode cX11_init 132 = .ok (.iconst 5, 1) := by decide +kernel
theorem dX11_init_133 : decode cX11_init 133 = .ok (.newarray .int, 2) := by decide +kernel
theorem dX11_init_135 : decode cX11_init 135 = .ok (.putfield 59, 3) := by decide +kernel
theorem dX11_init_138 : decode cX11_init 138 = .ok (.aload_n 0, 1) := by decide +kernel
theorem dX11_init_139 : decode cX11_init 139 = .ok (.bipush 8, 2) := by decide +kernel
theorem dX11_init_141 : decode cX11_init 141 = .ok (.newarray .int, 2) := by decide +kernel
theorem dX11_init_143 : decode cX11_init 143 = .ok (.putfield 62, 3) := by decide +kernel
theorem dX11_init_146 : decode cX11_init 146 = .ok (.aload_n 0, 1) := by decide +kernel
theorem dX11_init_147 : decode cX11_init 147 = .ok (.bipush 6, 2) := by decide +kernel
theorem dX11_init_149 : decode cX11_init 149 = .ok (.newarray .int, 2) := by decide +kernel
theorem dX11_init_151 : decode cX11_init 151 = .ok (.putfield 65, 3) := by decide +kernel
theorem dX11_init_154 : decode cX11_init 154 = .ok (.aload_n 0, 1) := by decide +kernel
theorem dX11_init_155 : decode cX11_init 155 = .ok (.getfield 7, 3) := by decide +kernel
theorem dX11_init_158 : decode cX11_init 158 = .ok (.bipush 6, 2) := by decide +kernel
theorem dX11_init_160 : decode cX11_init 160 = .ok (.iconst (-1), 1) := by decide +kernel
theorem dX11_init_161 : decode cX11_init 161 = .ok (.iastore, 1) := by decide +kernel
theorem dX11_init_162 : decode cX11_init 162 = .ok (.return_, 1) := by decide +kernel
theorem ac_int : Cond.arrayClass .int ∈ UW := (uw_t 122 (by decide +kernel) (by decide +kernel))
theorem ac_byte : Cond.arrayClass .byte ∈ UW := (uw_t 121 (by decide +kernel) (by decide +kernel))
theorem ac_boolean : Cond.arrayClass .boolean ∈ UW := (uw_t 235 (by decide +kernel) (by decide +kernel))
theorem fc_RX10_10 : Cond.fieldLink RX10 10 (TX10 0).1 (TX10 0).2.1 (TX10 0).2.2.1 ∈ UW := (uw_t 411 (by decide +kernel) (by decide +kernel))
theorem fc_RX10_16 : Cond.fieldLink RX10 16 (TX10 1).1 (TX10 1).2.1 (TX10 1).2.2.1 ∈ UW := (uw_t 412 (by decide +kernel) (by decide +kernel))
theorem fc_RX10_20 : Cond.fieldLink RX10 20 (TX10 2).1 (TX10 2).2.1 (TX10 2).2.2.1 ∈ UW := (uw_t 413 (by decide +kernel) (by decide +kernel))
theorem fc_RX10_27 : Cond.fieldLink RX10 27 (TX10 3).1 (TX10 3).2.1 (TX10 3).2.2.1 ∈ UW := (uw_t 414 (by decide +kernel) (by decide +kernel))
theorem fc_RX10_34 : Cond.fieldLink RX10 34 (TX10 4).1 (TX10 4).2.1 (TX10 4).2.2.1 ∈ UW := (uw_t 415 (by decide +kernel) (by decide +kernel))
theorem fc_RX10_41 : Cond.fieldLink RX10 41 (TX10 5).1 (TX10 5).2.1 (TX10 5).2.2.1 ∈ UW := (uw_t 416 (by decide +kernel) (by decide +kernel))
theorem fc_RX10_48 : Cond.fieldLink RX10 48 (TX10 6).1 (TX10 6).2.1 (TX10 6).2.2.1 ∈ UW := (uw_t 417 (by decide +kernel) (by decide +kernel))
theorem fc_RX10_55 : Cond.fieldLink RX10 55 (TX10 7).1 (TX10 7).2.1 (TX10 7).2.2.1 ∈ UW := (uw_t 418 (by decide +kernel) (by decide +kernel))
theorem fc_RX10_62 : Cond.fieldLink RX10 62 (TX10 8).1 (TX10 8).2.1 (TX10 8).2.2.1 ∈ UW := (uw_t 419 (by decide +kernel) (by decide +kernel))
theorem fc_RX10_69 : Cond.fieldLink RX10 69 (TX10 9).1 (TX10 9).2.1 (TX10 9).2.2.1 ∈ UW := (uw_t 420 (by decide +kernel) (by decide +kernel))
theorem fc_RX0_12 : Cond.fieldLink RX0 12 (TX0 0).1 (TX0 0).2.1 (TX0 0).2.2.1 ∈ UW := (uw_t 340 (by decide +kernel) (by decide +kernel))
theorem fc_RX0_18 : Cond.fieldLink RX0 18 (TX0 1).1 (TX0 1).2.1 (TX0 1).2.2.1 ∈ UW := (uw_t 341 (by decide +kernel) (by decide +kernel))
theorem fc_RX1_9 : Cond.fieldLink RX1 9 (TX1 0).1 (TX1 0).2.1 (TX1 0).2.2.1 ∈ UW := (uw_t 42 (by decide +kernel) (by decide +kernel))
theorem fc_RX1_15 : Cond.fieldLink RX1 15 (TX1 1).1 (TX1 1).2.1 (TX1 1).2.2.1 ∈ UW := (uw_t 48 (by decide +kernel) (by decide +kernel))
theorem fc_RX1_18 : Cond.fieldLink RX1 18 (TX1 2).1 (TX1 2).2.1 (TX1 2).2.2.1 ∈ UW := (uw_t 54 (by decide +kernel) (by decide +kernel))
theorem fc_RX1_21 : Cond.fieldLink RX1 21 (TX1 3).1 (TX1 3).2.1 (TX1 3).2.2.1 ∈ UW := (uw_t 59 (by decide +kernel) (by decide +kernel))
theorem fc_RX1_24 : Cond.fieldLink RX1 24 (TX1 4).1 (TX1 4).2.1 (TX1 4).2.2.1 ∈ UW := (uw_t 63 (by decide +kernel) (by decide +kernel))
theorem fc_RX1_27 : Cond.fieldLink RX1 27 (TX1 5).1 (TX1 5).2.1 (TX1 5).2.2.1 ∈ UW := (uw_t 67 (by decide +kernel) (by decide +kernel))
theorem fc_RX1_31 : Cond.fieldLink RX1 31 (TX1 6).1 (TX1 6).2.1 (TX1 6).2.2.1 ∈ UW := (uw_t 69 (by decide +kernel) (by decide +kernel))
theorem fc_RX1_34 : Cond.fieldLink RX1 34 (TX1 7).1 (TX1 7).2.1 (TX1 7).2.2.1 ∈ UW := (uw_t 71 (by decide +kernel) (by decide +kernel))
theorem fc_RX1_37 : Cond.fieldLink RX1 37 (TX1 8).1 (TX1 8).2.1 (TX1 8).2.2.1 ∈ UW := (uw_t 75 (by decide +kernel) (by decide +kernel))
theorem fc_RX1_40 : Cond.fieldLink RX1 40 (TX1 9).1 (TX1 9).2.1 (TX1 9).2.2.1 ∈ UW := (uw_t 79 (by decide +kernel) (by decide +kernel))
theorem fc_RX1_43 : Cond.fieldLink RX1 43 (TX1 10).1 (TX1 10).2.1 (TX1 10).2.2.1 ∈ UW := (uw_t 85 (by decide +kernel) (by decide +kernel))
theorem fc_RX1_46 : Cond.fieldLink RX1 46 (TX1 11).1 (TX1 11).2.1 (TX1 11).2.2.1 ∈ UW := (uw_t 87 (by decide +kernel) (by decide +kernel))
theorem fc_RX1_49 : Cond.fieldLink RX1 49 (TX1 12).1 (TX1 12).2.1 (TX1 12).2.2.1 ∈ UW := (uw_t 88 (by decide +kernel) (by decide +kernel))
theorem fc_RX1_52 : Cond.fieldLink RX1 52 (TX1 13).1 (TX1 13).2.1 (TX1 13).2.2.1 ∈ UW := (uw_t 89 (by decide +kernel) (by decide +kernel))
theorem fc_RX2_9 : Cond.fieldLink RX2 9 (TX2 0).1 (TX2 0).2.1 (TX2 0).2.2.1 ∈ UW := (uw_t 403 (by decide +kernel) (by decide +kernel))
theorem fc_RX2_15 : Cond.fieldLink RX2 15 (TX2 1).1 (TX2 1).2.1 (TX2 1).2.2.1 ∈ UW := (uw_t 404 (by decide +kernel) (by decide +kernel))
theorem fc_RX3_12 : Cond.fieldLink RX3 12 (TX3 0).1 (TX3 0).2.1 (TX3 0).2.2.1 ∈ UW := (uw_t 271 (by decide +kernel) (by decide +kernel))
theorem fc_RX3_18 : Cond.fieldLink RX3 18 (TX3 1).1 (TX3 1).2.1 (TX3 1).2.2.1 ∈ UW := (uw_t 272 (by decide +kernel) (by decide +kernel))
theorem fc_RX3_22 : Cond.fieldLink RX3 22 (TX3 2).1 (TX3 2).2.1 (TX3 2).2.2.1 ∈ UW := (uw_t 273 (by decide +kernel) (by decide +kernel))
theorem fc_RX3_25 : Cond.fieldLink RX3 25 (TX3 3).1 (TX3 3).2.1 (TX3 3).2.2.1 ∈ UW := (uw_t 274 (by decide +kernel) (by decide +kernel))
theorem fc_RX3_28 : Cond.fieldLink RX3 28 (TX3 4).1 (TX3 4).2.1 (TX3 4).2.2.1 ∈ UW := (uw_t 275 (by decide +kernel) (by decide +kernel))
theorem fc_RX3_31 : Cond.fieldLink RX3 31 (TX3 5).1 (TX3 5).2.1 (TX3 5).2.2.1 ∈ UW := (uw_t 276 (by decide +kernel) (by decide +kernel))
theorem fc_RX3_34 : Cond.fieldLink RX3 34 (TX3 6).1 (TX3 6).2.1 (TX3 6).2.2.1 ∈ UW := (uw_t 277 (by decide +kernel) (by decide +kernel))
theorem fc_RX3_37 : Cond.fieldLink RX3 37 (TX3 7).1 (TX3 7).2.1 (TX3 7).2.2.1 ∈ UW := (uw_t 278 (by decide +kernel) (by decide +kernel))
theorem fc_RX3_40 : Cond.fieldLink RX3 40 (TX3 8).1 (TX3 8).2.1 (TX3 8).2.2.1 ∈ UW := (uw_t 279 (by decide +kernel) (by decide +kernel))
theorem fc_RX3_43 : Cond.fieldLink RX3 43 (TX3 9).1 (TX3 9).2.1 (TX3 9).2.2.1 ∈ UW := (uw_t 280 (by decide +kernel) (by decide +kernel))
theorem fc_RX3_46 : Cond.fieldLink RX3 46 (TX3 10).1 (TX3 10).2.1 (TX3 10).2.2.1 ∈ UW := (uw_t 281 (by decide +kernel) (by decide +kernel))
theorem fc_RX3_49 : Cond.fieldLink RX3 49 (TX3 11).1 (TX3 11).2.1 (TX3 11).2.2.1 ∈ UW := (uw_t 282 (by decide +kernel) (by decide +kernel))
theorem fc_RX3_53 : Cond.fieldLink RX3 53 (TX3 12).1 (TX3 12).2.1 (TX3 12).2.2.1 ∈ UW := (uw_t 283 (by decide +kernel) (by decide +kernel))
theorem fc_RX3_56 : Cond.fieldLink RX3 56 (TX3 13).1 (TX3 13).2.1 (TX3 13).2.2.1 ∈ UW := (uw_t 284 (by decide +kernel) (by decide +kernel))
theorem fc_RX3_59 : Cond.fieldLink RX3 59 (TX3 14).1 (TX3 14).2.1 (TX3 14).2.2.1 ∈ UW := (uw_t 285 (by decide +kernel) (by decide +kernel))
theorem fc_RX3_62 : Cond.fieldLink RX3 62 (TX3 15).1 (TX3 15).2.1 (TX3 15).2.2.1 ∈ UW := (uw_t 286 (by decide +kernel) (by decide +kernel))
theorem fc_RX3_65 : Cond.fieldLink RX3 65 (TX3 16).1 (TX3 16).2.1 (TX3 16).2.2.1 ∈ UW := (uw_t 287 (by decide +kernel) (by decide +kernel))
theorem fc_RX3_68 : Cond.fieldLink RX3 68 (TX3 17).1 (TX3 17).2.1 (TX3 17).2.2.1 ∈ UW := (uw_t 289 (by decide +kernel) (by decide +kernel))
theorem fc_RX3_71 : Cond.fieldLink RX3 71 (TX3 18).1 (TX3 18).2.1 (TX3 18).2.2.1 ∈ UW := (uw_t 291 (by decide +kernel) (by decide +kernel))
theorem fc_RX4_12 : Cond.fieldLink RX4 12 (TX4 0).1 (TX4 0).2.1 (TX4 0).2.2.1 ∈ UW := (uw_t 197 (by decide +kernel) (by decide +kernel))
theorem fc_RX4_23 : Cond.fieldLink RX4 23 (TX4 1).1 (TX4 1).2.1 (TX4 1).2.2.1 ∈ UW := (uw_t 199 (by decide +kernel) (by decide +kernel))
theorem fc_RX4_27 : Cond.fieldLink RX4 27 (TX4 2).1 (TX4 2).2.1 (TX4 2).2.2.1 ∈ UW := (uw_t 201 (by decide +kernel) (by decide +kernel))
theorem fc_RX4_31 : Cond.fieldLink RX4 31 (TX4 3).1 (TX4 3).2.1 (TX4 3).2.2.1 ∈ UW := (uw_t 203 (by decide +kernel) (by decide +kernel))
theorem fc_RX4_34 : Cond.fieldLink RX4 34 (TX4 4).1 (TX4 4).2.1 (TX4 4).2.2.1 ∈ UW := (uw_t 205 (by decide +kernel) (by decide +kernel))
theorem fc_RX4_38 : Cond.fieldLink RX4 38 (TX4 5).1 (TX4 5).2.1 (TX4 5).2.2.1 ∈ UW := (uw_t 206 (by decide +kernel) (by decide +kernel))
theorem fc_RX4_41 : Cond.fieldLink RX4 41 (TX4 6).1 (TX4 6).2.1 (TX4 6).2.2.1 ∈ UW := (uw_t 207 (by decide +kernel) (by decide +kernel))
theorem fc_RX4_44 : Cond.fieldLink RX4 44 (TX4 7).1 (TX4 7).2.1 (TX4 7).2.2.1 ∈ UW := (uw_t 208 (by decide +kernel) (by decide +kernel))
theorem fc_RX4_47 : Cond.fieldLink RX4 47 (TX4 8).1 (TX4 8).2.1 (TX4 8).2.2.1 ∈ UW := (uw_t 209 (by decide +kernel) (by decide +kernel))
theorem fc_RX4_50 : Cond.fieldLink RX4 50 (TX4 9).1 (TX4 9).2.1 (TX4 9).2.2.1 ∈ UW := (uw_t 210 (by decide +kernel) (by decide +kernel))
theorem fc_RX4_53 : Cond.fieldLink RX4 53 (TX4 10).1 (TX4 10).2.1 (TX4 10).2.2.1 ∈ UW := (uw_t 211 (by decide +kernel) (by decide +kernel))
theorem fc_RX5_12 : Cond.fieldLink RX5 12 (TX5 0).1 (TX5 0).2.1 (TX5 0).2.2.1 ∈ UW := (uw_t 244 (by decide +kernel) (by decide +kernel))
theorem fc_RX5_18 : Cond.fieldLink RX5 18 (TX5 1).1 (TX5 1).2.1 (TX5 1).2.2.1 ∈ UW := (uw_t 245 (by decide +kernel) (by decide +kernel))
theorem fc_RX5_22 : Cond.fieldLink RX5 22 (TX5 2).1 (TX5 2).2.1 (TX5 2).2.2.1 ∈ UW := (uw_t 246 (by decide +kernel) (by decide +kernel))
theorem fc_RX5_25 : Cond.fieldLink RX5 25 (TX5 3).1 (TX5 3).2.1 (TX5 3).2.2.1 ∈ UW := (uw_t 247 (by decide +kernel) (by decide +kernel))
theorem fc_RX5_29 : Cond.fieldLink RX5 29 (TX5 4).1 (TX5 4).2.1 (TX5 4).2.2.1 ∈ UW := (uw_t 248 (by decide +kernel) (by decide +kernel))
theorem fc_RX5_32 : Cond.fieldLink RX5 32 (TX5 5).1 (TX5 5).2.1 (TX5 5).2.2.1 ∈ UW := (uw_t 249 (by decide +kernel) (by decide +kernel))
theorem fc_RX6_7 : Cond.fieldLink RX6 7 (TX6 3).1 (TX6 3).2.1 (TX6 3).2.2.1 ∈ UW := (uw_t 142 (by decide +kernel) (by decide +kernel))
theorem fc_RX6_19 : Cond.fieldLink RX6 19 (TX6 0).1 (TX6 0).2.1 (TX6 0).2.2.1 ∈ UW := (uw_t 133 (by decide +kernel) (by decide +kernel))
theorem fc_RX6_22 : Cond.fieldLink RX6 22 (TX6 1).1 (TX6 1).2.1 (TX6 1).2.2.1 ∈ UW := (uw_t 134 (by decide +kernel) (by decide +kernel))
theorem fc_RX6_26 : Cond.fieldLink RX6 26 (TX6 2).1 (TX6 2).2.1 (TX6 2).2.2.1 ∈ UW := (uw_t 138 (by decide +kernel) (by decide +kernel))
theorem fc_RX7_9 : Cond.fieldLink RX7 9 (TX7 0).1 (TX7 0).2.1 (TX7 0).2.2.1 ∈ UW := (uw_t 156 (by decide +kernel) (by decide +kernel))
theorem fc_RX7_15 : Cond.fieldLink RX7 15 (TX7 1).1 (TX7 1).2.1 (TX7 1).2.2.1 ∈ UW := (uw_t 158 (by decide +kernel) (by decide +kernel))
theorem fc_RX7_19 : Cond.fieldLink RX7 19 (TX7 2).1 (TX7 2).2.1 (TX7 2).2.2.1 ∈ UW := (uw_t 160 (by decide +kernel) (by decide +kernel))
theorem fc_RX7_22 : Cond.fieldLink RX7 22 (TX7 3).1 (TX7 3).2.1 (TX7 3).2.2.1 ∈ UW := (uw_t 162 (by decide +kernel) (by decide +kernel))
theorem fc_RX7_25 : Cond.fieldLink RX7 25 (TX7 4).1 (TX7 4).2.1 (TX7 4).2.2.1 ∈ UW := (uw_t 164 (by decide +kernel) (by decide +kernel))
theorem fc_RX7_32 : Cond.fieldLink RX7 32 (TX7 5).1 (TX7 5).2.1 (TX7 5).2.2.1 ∈ UW := (uw_t 166 (by decide +kernel) (by decide +kernel))
theorem fc_RX7_41 : Cond.fieldLink RX7 41 (TX7 6).1 (TX7 6).2.1 (TX7 6).2.2.1 ∈ UW := (uw_t 167 (by decide +kernel) (by decide +kernel))
theorem fc_RX7_45 : Cond.fieldLink RX7 45 (TX7 7).1 (TX7 7).2.1 (TX7 7).2.2.1 ∈ UW := (uw_t 168 (by decide +kernel) (by decide +kernel))
theorem fc_RX8_12 : Cond.fieldLink RX8 12 (TX8 0).1 (TX8 0).2.1 (TX8 0).2.2.1 ∈ UW := (uw_t 384 (by decide +kernel) (by decide +kernel))
theorem fc_RX8_18 : Cond.fieldLink RX8 18 (TX8 1).1 (TX8 1).2.1 (TX8 1).2.2.1 ∈ UW := (uw_t 385 (by decide +kernel) (by decide +kernel))
theorem fc_RX8_22 : Cond.fieldLink RX8 22 (TX8 2).1 (TX8 2).2.1 (TX8 2).2.2.1 ∈ UW := (uw_t 386 (by decide +kernel) (by decide +kernel))
theorem fc_RX8_25 : Cond.fieldLink RX8 25 (TX8 3).1 (TX8 3).2.1 (TX8 3).2.2.1 ∈ UW := (uw_t 387 (by decide +kernel) (by decide +kernel))
theorem fc_RX9_12 : Cond.fieldLink RX9 12 (TX9 0).1 (TX9 0).2.1 (TX9 0).2.2.1 ∈ UW := (uw_t 355 (by decide +kernel) (by decide +kernel))
theorem fc_RX9_18 : Cond.fieldLink RX9 18 (TX9 1).1 (TX9 1).2.1 (TX9 1).2.2.1 ∈ UW := (uw_t 356 (by decide +kernel) (by decide +kernel))
theorem fc_RX9_22 : Cond.fieldLink RX9 22 (TX9 2).1 (TX9 2).2.1 (TX9 2).2.2.1 ∈ UW := (uw_t 357 (by decide +kernel) (by decide +kernel))
theorem fc_RX9_25 : Cond.fieldLink RX9 25 (TX9 3).1 (TX9 3).2.1 (TX9 3).2.2.1 ∈ UW := (uw_t 358 (by decide +kernel) (by decide +kernel))
theorem fc_RX9_28 : Cond.fieldLink RX9 28 (TX9 4).1 (TX9 4).2.1 (TX9 4).2.2.1 ∈ UW := (uw_t 359 (by decide +kernel) (by decide +kernel))
theorem fc_RX9_31 : Cond.fieldLink RX9 31 (TX9 5).1 (TX9 5).2.1 (TX9 5).2.2.1 ∈ UW := (uw_t 361 (by decide +kernel) (by decide +kernel))
theorem fc_RX11_7 : Cond.fieldLink RX11 7 (TX11 0).1 (TX11 0).2.1 (TX11 0).2.2.1 ∈ UW := (uw_t 1185 (by decide +kernel) (by decide +kernel))
theorem fc_RX11_13 : Cond.fieldLink RX11 13 (TX11 1).1 (TX11 1).2.1 (TX11 1).2.2.1 ∈ UW := (uw_t 1186 (by decide +kernel) (by decide +kernel))
theorem fc_RX11_17 : Cond.fieldLink RX11 17 (TX11 11).1 (TX11 11).2.1 (TX11 11).2.2.1 ∈ UW := (uw_t 1196 (by decide +kernel) (by decide +kernel))
theorem fc_RX11_20 : Cond.fieldLink RX11 20 (TX11 16).1 (TX11 16).2.1 (TX11 16).2.2.1 ∈ UW := (uw_t 1201 (by decide +kernel) (by decide +kernel))
theorem fc_RX11_23 : Cond.fieldLink RX11 23 (TX11 17).1 (TX11 17).2.1 (TX11 17).2.2.1 ∈ UW := (uw_t 1202 (by decide +kernel) (by decide +kernel))
theorem fc_RX11_26 : Cond.fieldLink RX11 26 (TX11 18).1 (TX11 18).2.1 (TX11 18).2.2.1 ∈ UW := (uw_t 1203 (by decide +kernel) (by decide +kernel))
theorem fc_RX11_29 : Cond.fieldLink RX11 29 (TX11 19).1 (TX11 19).2.1 (TX11 19).2.2.1 ∈ UW := (uw_t 1204 (by decide +kernel) (by decide +kernel))
theorem fc_RX11_32 : Cond.fieldLink RX11 32 (TX11 23).1 (TX11 23).2.1 (TX11 23).2.2.1 ∈ UW := (uw_t 1208 (by decide +kernel) (by decide +kernel))
theorem fc_RX11_35 : Cond.fieldLink RX11 35 (TX11 24).1 (TX11 24).2.1 (TX11 24).2.2.1 ∈ UW := (uw_t 1209 (by decide +kernel) (by decide +kernel))
theorem fc_RX11_38 : Cond.fieldLink RX11 38 (TX11 25).1 (TX11 25).2.1 (TX11 25).2.2.1 ∈ UW := (uw_t 1210 (by decide +kernel) (by decide +kernel))
theorem fc_RX11_41 : Cond.fieldLink RX11 41 (TX11 26).1 (TX11 26).2.1 (TX11 26).2.2.1 ∈ UW := (uw_t 1211 (by decide +kernel) (by decide +kernel))
theorem fc_RX11_44 : Cond.fieldLink RX11 44 (TX11 27).1 (TX11 27).2.1 (TX11 27).2.2.1 ∈ UW := (uw_t 1212 (by decide +kernel) (by decide +kernel))
theorem fc_RX11_47 : Cond.fieldLink RX11 47 (TX11 28).1 (TX11 28).2.1 (TX11 28).2.2.1 ∈ UW := (uw_t 1213 (by decide +kernel) (by decide +kernel))
theorem fc_RX11_50 : Cond.fieldLink RX11 50 (TX11 30).1 (TX11 30).2.1 (TX11 30).2.2.1 ∈ UW := (uw_t 1215 (by decide +kernel) (by decide +kernel))
theorem fc_RX11_53 : Cond.fieldLink RX11 53 (TX11 31).1 (TX11 31).2.1 (TX11 31).2.2.1 ∈ UW := (uw_t 1216 (by decide +kernel) (by decide +kernel))
theorem fc_RX11_56 : Cond.fieldLink RX11 56 (TX11 45).1 (TX11 45).2.1 (TX11 45).2.2.1 ∈ UW := (uw_t 1230 (by decide +kernel) (by decide +kernel))
theorem fc_RX11_59 : Cond.fieldLink RX11 59 (TX11 46).1 (TX11 46).2.1 (TX11 46).2.2.1 ∈ UW := (uw_t 1231 (by decide +kernel) (by decide +kernel))
theorem fc_RX11_62 : Cond.fieldLink RX11 62 (TX11 47).1 (TX11 47).2.1 (TX11 47).2.2.1 ∈ UW := (uw_t 1232 (by decide +kernel) (by decide +kernel))
theorem fc_RX11_65 : Cond.fieldLink RX11 65 (TX11 49).1 (TX11 49).2.1 (TX11 49).2.2.1 ∈ UW := (uw_t 1234 (by decide +kernel) (by decide +kernel))
theorem na_RX10_7 : Cond.classLink RX10 7 RX7 ∈ UW := (uw_t 29 (by decide +kernel) (by decide +kernel))
theorem na_RX7_29 : Cond.classLink RX7 29 RX1 ∈ UW := (uw_t 35 (by decide +kernel) (by decide +kernel))
theorem na_RX7_36 : Cond.classLink RX7 36 RX6 ∈ UW := (uw_t 123 (by decide +kernel) (by decide +kernel))
theorem nw_RX0_9 : Cond.classLink RX0 9 RX1 ∈ UW ∧ Cond.instantiable RX1 14 ∈ UW ∧ Cond.initialized RX1 ∈ UW := ⟨(uw_t 338 (by decide +kernel) (by decide +kernel)), (uw_t 37 (by decide +kernel) (by decide +kernel)), (uw_t 3 (by decide +kernel) (by decide +kernel))⟩
theorem nw_RX10_24 : Cond.classLink RX10 24 RX4 ∈ UW ∧ Cond.instantiable RX4 11 ∈ UW ∧ Cond.initialized RX4 ∈ UW := ⟨(uw_t 187 (by decide +kernel) (by decide +kernel)), (uw_t 188 (by decide +kernel) (by decide +kernel)), (uw_t 6 (by decide +kernel) (by decide +kernel))⟩
theorem nw_RX10_31 : Cond.classLink RX10 31 RX5 ∈ UW ∧ Cond.instantiable RX5 6 ∈ UW ∧ Cond.initialized RX5 ∈ UW := ⟨(uw_t 236 (by decide +kernel) (by decide +kernel)), (uw_t 237 (by decide +kernel) (by decide +kernel)), (uw_t 7 (by decide +kernel) (by decide +kernel))⟩
theorem nw_RX10_38 : Cond.classLink RX10 38 RX3 ∈ UW ∧ Cond.instantiable RX3 19 ∈ UW ∧ Cond.initialized RX3 ∈ UW := ⟨(uw_t 263 (by decide +kernel) (by decide +kernel)), (uw_t 264 (by decide +kernel) (by decide +kernel)), (uw_t 8 (by decide +kernel) (by decide +kernel))⟩
theorem nw_RX10_45 : Cond.classLink RX10 45 RX0 ∈ UW ∧ Cond.instantiable RX0 2 ∈ UW ∧ Cond.initialized RX0 ∈ UW := ⟨(uw_t 332 (by decide +kernel) (by decide +kernel)), (uw_t 333 (by decide +kernel) (by decide +kernel)), (uw_t 9 (by decide +kernel) (by decide +kernel))⟩
theorem nw_RX10_52 : Cond.classLink RX10 52 RX9 ∈ UW ∧ Cond.instantiable RX9 6 ∈ UW ∧ Cond.initialized RX9 ∈ UW := ⟨(uw_t 347 (by decide +kernel) (by decide +kernel)), (uw_t 348 (by decide +kernel) (by decide +kernel)), (uw_t 10 (by decide +kernel) (by decide +kernel))⟩
theorem nw_RX10_59 : Cond.classLink RX10 59 RX8 ∈ UW ∧ Cond.instantiable RX8 4 ∈ UW ∧ Cond.initialized RX8 ∈ UW := ⟨(uw_t 376 (by decide +kernel) (by decide +kernel)), (uw_t 377 (by decide +kernel) (by decide +kernel)), (uw_t 11 (by decide +kernel) (by decide +kernel))⟩
theorem nw_RX10_66 : Cond.classLink RX10 66 RX2 ∈ UW ∧ Cond.instantiable RX2 2 ∈ UW ∧ Cond.initialized RX2 ∈ UW := ⟨(uw_t 397 (by decide +kernel) (by decide +kernel)), (uw_t 398 (by decide +kernel) (by decide +kernel)), (uw_t 12 (by decide +kernel) (by decide +kernel))⟩
theorem nw_RX10_7 : Cond.classLink RX10 7 RX7 ∈ UW ∧ Cond.instantiable RX7 8 ∈ UW ∧ Cond.initialized RX7 ∈ UW := ⟨(uw_t 29 (by decide +kernel) (by decide +kernel)), (uw_t 30 (by decide +kernel) (by decide +kernel)), (uw_t 2 (by decide +kernel) (by decide +kernel))⟩
theorem nw_RX3_9 : Cond.classLink RX3 9 RX1 ∈ UW ∧ Cond.instantiable RX1 14 ∈ UW ∧ Cond.initialized RX1 ∈ UW := ⟨(uw_t 269 (by decide +kernel) (by decide +kernel)), (uw_t 37 (by decide +kernel) (by decide +kernel)), (uw_t 3 (by decide +kernel) (by decide +kernel))⟩
theorem nw_RX4_18 : Cond.classLink RX4 18 RX6 ∈ UW ∧ Cond.instantiable RX6 4 ∈ UW ∧ Cond.initialized RX6 ∈ UW := ⟨(uw_t 195 (by decide +kernel) (by decide +kernel)), (uw_t 125 (by decide +kernel) (by decide +kernel)), (uw_t 4 (by decide +kernel) (by decide +kernel))⟩
theorem nw_RX4_9 : Cond.classLink RX4 9 RX1 ∈ UW ∧ Cond.instantiable RX1 14 ∈ UW ∧ Cond.initialized RX1 ∈ UW := ⟨(uw_t 193 (by decide +kernel) (by decide +kernel)), (uw_t 37 (by decide +kernel) (by decide +kernel)), (uw_t 3 (by decide +kernel) (by decide +kernel))⟩
theorem nw_RX5_9 : Cond.classLink RX5 9 RX1 ∈ UW ∧ Cond.instantiable RX1 14 ∈ UW ∧ Cond.initialized RX1 ∈ UW := ⟨(uw_t 242 (by decide +kernel) (by decide +kernel)), (uw_t 37 (by decide +kernel) (by decide +kernel)), (uw_t 3 (by decide +kernel) (by decide +kernel))⟩
theorem nw_RX7_29 : Cond.classLink RX7 29 RX1 ∈ UW ∧ Cond.instantiable RX1 14 ∈ UW ∧ Cond.initialized RX1 ∈ UW := ⟨(uw_t 35 (by decide +kernel) (by decide +kernel)), (uw_t 37 (by decide +kernel) (by decide +kernel)), (uw_t 3 (by decide +kernel) (by decide +kernel))⟩
theorem nw_RX7_36 : Cond.classLink RX7 36 RX6 ∈ UW ∧ Cond.instantiable RX6 4 ∈ UW ∧ Cond.initialized RX6 ∈ UW := ⟨(uw_t 123 (by decide +kernel) (by decide +kernel)), (uw_t 125 (by decide +kernel) (by decide +kernel)), (uw_t 4 (by decide +kernel) (by decide +kernel))⟩
theorem nw_RX8_9 : Cond.classLink RX8 9 RX1 ∈ UW ∧ Cond.instantiable RX1 14 ∈ UW ∧ Cond.initialized RX1 ∈ UW := ⟨(uw_t 382 (by decide +kernel) (by decide +kernel)), (uw_t 37 (by decide +kernel) (by decide +kernel)), (uw_t 3 (by decide +kernel) (by decide +kernel))⟩
theorem nw_RX9_9 : Cond.classLink RX9 9 RX1 ∈ UW ∧ Cond.instantiable RX1 14 ∈ UW ∧ Cond.initialized RX1 ∈ UW := ⟨(uw_t 353 (by decide +kernel) (by decide +kernel)), (uw_t 37 (by decide +kernel) (by decide +kernel)), (uw_t 3 (by decide +kernel) (by decide +kernel))⟩
theorem oi_RX10 : Cond.methodLink RX10 1 Lib.objectInit ∈ UW ∧ Cond.instanceMethod Lib.objectInit ∈ UW ∧ Cond.code Lib.objectInit ⟨#[0xb1]⟩ 1 none ∈ UW := ⟨(uw_t 26 (by decide +kernel) (by decide +kernel)), (uw_t 27 (by decide +kernel) (by decide +kernel)), (uw_t 28 (by decide +kernel) (by decide +kernel))⟩
theorem oi_RX0 : Cond.methodLink RX0 3 Lib.objectInit ∈ UW ∧ Cond.instanceMethod Lib.objectInit ∈ UW ∧ Cond.code Lib.objectInit ⟨#[0xb1]⟩ 1 none ∈ UW := ⟨(uw_t 337 (by decide +kernel) (by decide +kernel)), (uw_t 27 (by decide +kernel) (by decide +kernel)), (uw_t 28 (by decide +kernel) (by decide +kernel))⟩
theorem oi_RX1 : Cond.methodLink RX1 3 Lib.objectInit ∈ UW ∧ Cond.instanceMethod Lib.objectInit ∈ UW ∧ Cond.code Lib.objectInit ⟨#[0xb1]⟩ 1 none ∈ UW := ⟨(uw_t 41 (by decide +kernel) (by decide +kernel)), (uw_t 27 (by decide +kernel) (by decide +kernel)), (uw_t 28 (by decide +kernel) (by decide +kernel))⟩
theorem oi_RX2 : Cond.methodLink RX2 3 Lib.objectInit ∈ UW ∧ Cond.instanceMethod Lib.objectInit ∈ UW ∧ Cond.code Lib.objectInit ⟨#[0xb1]⟩ 1 none ∈ UW := ⟨(uw_t 402 (by decide +kernel) (by decide +kernel)), (uw_t 27 (by decide +kernel) (by decide +kernel)), (uw_t 28 (by decide +kernel) (by decide +kernel))⟩
theorem oi_RX3 : Cond.methodLink RX3 3 Lib.objectInit ∈ UW ∧ Cond.instanceMethod Lib.objectInit ∈ UW ∧ Cond.code Lib.objectInit ⟨#[0xb1]⟩ 1 none ∈ UW := ⟨(uw_t 268 (by decide +kernel) (by decide +kernel)), (uw_t 27 (by decide +kernel) (by decide +kernel)), (uw_t 28 (by decide +kernel) (by decide +kernel))⟩
theorem oi_RX4 : Cond.methodLink RX4 3 Lib.objectInit ∈ UW ∧ Cond.instanceMethod Lib.objectInit ∈ UW ∧ Cond.code Lib.objectInit ⟨#[0xb1]⟩ 1 none ∈ UW := ⟨(uw_t 192 (by decide +kernel) (by decide +kernel)), (uw_t 27 (by decide +kernel) (by decide +kernel)), (uw_t 28 (by decide +kernel) (by decide +kernel))⟩
theorem oi_RX5 : Cond.methodLink RX5 3 Lib.objectInit ∈ UW ∧ Cond.instanceMethod Lib.objectInit ∈ UW ∧ Cond.code Lib.objectInit ⟨#[0xb1]⟩ 1 none ∈ UW := ⟨(uw_t 241 (by decide +kernel) (by decide +kernel)), (uw_t 27 (by decide +kernel) (by decide +kernel)), (uw_t 28 (by decide +kernel) (by decide +kernel))⟩
theorem oi_RX6 : Cond.methodLink RX6 1 Lib.objectInit ∈ UW ∧ Cond.instanceMethod Lib.objectInit ∈ UW ∧ Cond.code Lib.objectInit ⟨#[0xb1]⟩ 1 none ∈ UW := ⟨(uw_t 129 (by decide +kernel) (by decide +kernel)), (uw_t 27 (by decide +kernel) (by decide +kernel)), (uw_t 28 (by decide +kernel) (by decide +kernel))⟩
theorem oi_RX7 : Cond.methodLink RX7 3 Lib.objectInit ∈ UW ∧ Cond.instanceMethod Lib.objectInit ∈ UW ∧ Cond.code Lib.objectInit ⟨#[0xb1]⟩ 1 none ∈ UW := ⟨(uw_t 34 (by decide +kernel) (by decide +kernel)), (uw_t 27 (by decide +kernel) (by decide +kernel)), (uw_t 28 (by decide +kernel) (by decide +kernel))⟩
theorem oi_RX8 : Cond.methodLink RX8 3 Lib.objectInit ∈ UW ∧ Cond.instanceMethod Lib.objectInit ∈ UW ∧ Cond.code Lib.objectInit ⟨#[0xb1]⟩ 1 none ∈ UW := ⟨(uw_t 381 (by decide +kernel) (by decide +kernel)), (uw_t 27 (by decide +kernel) (by decide +kernel)), (uw_t 28 (by decide +kernel) (by decide +kernel))⟩
theorem oi_RX9 : Cond.methodLink RX9 3 Lib.objectInit ∈ UW ∧ Cond.instanceMethod Lib.objectInit ∈ UW ∧ Cond.code Lib.objectInit ⟨#[0xb1]⟩ 1 none ∈ UW := ⟨(uw_t 352 (by decide +kernel) (by decide +kernel)), (uw_t 27 (by decide +kernel) (by decide +kernel)), (uw_t 28 (by decide +kernel) (by decide +kernel))⟩
theorem oi_RX11 : Cond.methodLink RX11 1 Lib.objectInit ∈ UW ∧ Cond.instanceMethod Lib.objectInit ∈ UW ∧ Cond.code Lib.objectInit ⟨#[0xb1]⟩ 1 none ∈ UW := ⟨(uw_t 1184 (by decide +kernel) (by decide +kernel)), (uw_t 27 (by decide +kernel) (by decide +kernel)), (uw_t 28 (by decide +kernel) (by decide +kernel))⟩
theorem mi_RX0_11 : MI RX0 11 yX1_init cX1_init 1 0 := ⟨⟨Or.inl (by decide +kernel), (uw_t 39 (by decide +kernel) (by decide +kernel)), (uw_t 3 (by decide +kernel) (by decide +kernel)), (uw_t 40 (by decide +kernel) (by decide +kernel))⟩, by decide +kernel⟩
theorem mi_RX10_26 : MI RX10 26 yX4_init cX4_init 1 0 := ⟨⟨Or.inl (by decide +kernel), (uw_t 190 (by decide +kernel) (by decide +kernel)), (uw_t 6 (by decide +kernel) (by decide +kernel)), (uw_t 191 (by decide +kernel) (by decide +kernel))⟩, by decide +kernel⟩
theorem mi_RX10_33 : MI RX10 33 yX5_init cX5_init 1 0 := ⟨⟨Or.inl (by decide +kernel), (uw_t 239 (by decide +kernel) (by decide +kernel)), (uw_t 7 (by decide +kernel) (by decide +kernel)), (uw_t 240 (by decide +kernel) (by decide +kernel))⟩, by decide +kernel⟩
theorem mi_RX10_40 : MI RX10 40 yX3_init cX3_init 1 0 := ⟨⟨Or.inl (by decide +kernel), (uw_t 266 (by decide +kernel) (by decide +kernel)), (uw_t 8 (by decide +kernel) (by decide +kernel)), (uw_t 267 (by decide +kernel) (by decide +kernel))⟩, by decide +kernel⟩
theorem mi_RX10_47 : MI RX10 47 yX0_init cX0_init 1 0 := ⟨⟨Or.inl (by decide +kernel), (uw_t 335 (by decide +kernel) (by decide +kernel)), (uw_t 9 (by decide +kernel) (by decide +kernel)), (uw_t 336 (by decide +kernel) (by decide +kernel))⟩, by decide +kernel⟩
theorem mi_RX10_54 : MI RX10 54 yX9_init cX9_init 1 0 := ⟨⟨Or.inl (by decide +kernel), (uw_t 350 (by decide +kernel) (by decide +kernel)), (uw_t 10 (by decide +kernel) (by decide +kernel)), (uw_t 351 (by decide +kernel) (by decide +kernel))⟩, by decide +kernel⟩
theorem mi_RX10_61 : MI RX10 61 yX8_init cX8_init 1 0 := ⟨⟨Or.inl (by decide +kernel), (uw_t 379 (by decide +kernel) (by decide +kernel)), (uw_t 11 (by decide +kernel) (by decide +kernel)), (uw_t 380 (by decide +kernel) (by decide +kernel))⟩, by decide +kernel⟩
theorem mi_RX10_68 : MI RX10 68 yX2_init cX2_init 1 0 := ⟨⟨Or.inl (by decide +kernel), (uw_t 400 (by decide +kernel) (by decide +kernel)), (uw_t 12 (by decide +kernel) (by decide +kernel)), (uw_t 401 (by decide +kernel) (by decide +kernel))⟩, by decide +kernel⟩
theorem mi_RX10_9 : MI RX10 9 yX7_init cX7_init 1 0 := ⟨⟨Or.inl (by decide +kernel), (uw_t 32 (by decide +kernel) (by decide +kernel)), (uw_t 2 (by decide +kernel) (by decide +kernel)), (uw_t 33 (by decide +kernel) (by decide +kernel))⟩, by decide +kernel⟩
theorem mi_RX3_11 : MI RX3 11 yX1_init cX1_init 1 0 := ⟨⟨Or.inl (by decide +kernel), (uw_t 39 (by decide +kernel) (by decide +kernel)), (uw_t 3 (by decide +kernel) (by decide +kernel)), (uw_t 40 (by decide +kernel) (by decide +kernel))⟩, by decide +kernel⟩
theorem mi_RX4_11 : MI RX4 11 yX1_init cX1_init 1 0 := ⟨⟨Or.inl (by decide +kernel), (uw_t 39 (by decide +kernel) (by decide +kernel)), (uw_t 3 (by decide +kernel) (by decide +kernel)), (uw_t 40 (by decide +kernel) (by decide +kernel))⟩, by decide +kernel⟩
theorem mi_RX4_20 : MI RX4 20 yX6_init cX6_init 2 1 := ⟨⟨Or.inr (uw_t 196 (by decide +kernel) (by decide +kernel)), (uw_t 127 (by decide +kernel) (by decide +kernel)), (uw_t 4 (by decide +kernel) (by decide +kernel)), (uw_t 128 (by decide +kernel) (by decide +kernel))⟩, by decide +kernel⟩
theorem mi_RX5_11 : MI RX5 11 yX1_init cX1_init 1 0 := ⟨⟨Or.inl (by decide +kernel), (uw_t 39 (by decide +kernel) (by decide +kernel)), (uw_t 3 (by decide +kernel) (by decide +kernel)), (uw_t 40 (by decide +kernel) (by decide +kernel))⟩, by decide +kernel⟩
theorem mi_RX7_31 : MI RX7 31 yX1_init cX1_init 1 0 := ⟨⟨Or.inl (by decide +kernel), (uw_t 39 (by decide +kernel) (by decide +kernel)), (uw_t 3 (by decide +kernel) (by decide +kernel)), (uw_t 40 (by decide +kernel) (by decide +kernel))⟩, by decide +kernel⟩
theorem mi_RX7_38 : MI RX7 38 yX6_init cX6_init 2 1 := ⟨⟨Or.inr (uw_t 126 (by decide +kernel) (by decide +kernel)), (uw_t 127 (by decide +kernel) (by decide +kernel)), (uw_t 4 (by decide +kernel) (by decide +kernel)), (uw_t 128 (by decide +kernel) (by decide +kernel))⟩, by decide +kernel⟩
theorem mi_RX8_11 : MI RX8 11 yX1_init cX1_init 1 0 := ⟨⟨Or.inl (by decide +kernel), (uw_t 39 (by decide +kernel) (by decide +kernel)), (uw_t 3 (by decide +kernel) (by decide +kernel)), (uw_t 40 (by decide +kernel) (by decide +kernel))⟩, by decide +kernel⟩
theorem mi_RX9_11 : MI RX9 11 yX1_init cX1_init 1 0 := ⟨⟨Or.inl (by decide +kernel), (uw_t 39 (by decide +kernel) (by decide +kernel)), (uw_t 3 (by decide +kernel) (by decide +kernel)), (uw_t 40 (by decide +kernel) (by decide +kernel))⟩, by decide +kernel⟩
theorem mm_RX6_13 : MM RX6 13 Lib.Math.max.name Lib.Math.max.code 2 := ⟨(uw_t 130 (by decide +kernel) (by decide +kernel)), (uw_t 131 (by decide +kernel) (by decide +kernel)), (uw_t 5 (by decide +kernel) (by decide +kernel)), (uw_t 132 (by decide +kernel) (by decide +kernel))⟩
