theorem dX6_add_0 : decode cX6_add 0 = .ok (.aload_n 0, 1) := by decide +kernel
theorem dX6_add_1 : decode cX6_add 1 = .ok (.getfield 7, 3) := by decide +kernel
theorem dX6_add_4 : decode cX6_add 4 = .ok (.ifCond .lt 44, 3) := by decide +kernel
theorem dX6_add_7 : decode cX6_add 7 = .ok (.aload_n 0, 1) := by decide +kernel
theorem dX6_add_8 : decode cX6_add 8 = .ok (.getfield 7, 3) := by decide +kernel
theorem dX6_add_11 : decode cX6_add 11 = .ok (.aload_n 0, 1) := by decide +kernel
theorem dX6_add_12 : decode cX6_add 12 = .ok (.getfield 19, 3) := by decide +kernel
theorem dX6_add_15 : decode cX6_add 15 = .ok (.if_icmp .ge 33, 3) := by decide +kernel
theorem dX6_add_18 : decode cX6_add 18 = .ok (.aload_n 0, 1) := by decide +kernel
theorem dX6_add_19 : decode cX6_add 19 = .ok (.getfield 22, 3) := by decide +kernel
theorem dX6_add_22 : decode cX6_add 22 = .ok (.aload_n 0, 1) := by decide +kernel
theorem dX6_add_23 : decode cX6_add 23 = .ok (.getfield 7, 3) := by decide +kernel
theorem dX6_add_26 : decode cX6_add 26 = .ok (.iload_n 1, 1) := by decide +kernel
theorem dX6_add_27 : decode cX6_add 27 = .ok (.iastore, 1) := by decide +kernel
theorem dX6_add_28 : decode cX6_add 28 = .ok (.aload_n 0, 1) := by decide +kernel
theorem dX6_add_29 : decode cX6_add 29 = .ok (.getfield 26, 3) := by decide +kernel
theorem dX6_add_32 : decode cX6_add 32 = .ok (.aload_n 0, 1) := by decide +kernel
theorem dX6_add_33 : decode cX6_add 33 = .ok (.getfield 7, 3) := by decide +kernel
theorem dX6_add_36 : decode cX6_add 36 = .ok (.iload_n 2, 1) := by decide +kernel
theorem dX6_add_37 : decode cX6_add 37 = .ok (.iastore, 1) := by decide +kernel
theorem dX6_add_38 : decode cX6_add 38 = .ok (.aload_n 0, 1) := by decide +kernel
theorem dX6_add_39 : decode cX6_add 39 = .ok (.dup, 1) := by decide +kernel
theorem dX6_add_40 : decode cX6_add 40 = .ok (.getfield 7, 3) := by decide +kernel
theorem dX6_add_43 : decode cX6_add 43 = .ok (.iconst 1, 1) := by decide +kernel
theorem dX6_add_44 : decode cX6_add 44 = .ok (.iadd, 1) := by decide +kernel
theorem dX6_add_45 : decode cX6_add 45 = .ok (.putfield 7, 3) := by decide +kernel
theorem dX6_add_48 : decode cX6_add 48 = .ok (.return_, 1) := by decide +kernel
theorem dX6_numbersBelow_0 : decode cX6_numbersBelow 0 = .ok (.iconst 0, 1) := by decide +kernel
theorem dX6_numbersBelow_1 : decode cX6_numbersBelow 1 = .ok (.istore_n 2, 1) := by decide +kernel
theorem dX6_numbersBelow_2 : decode cX6_numbersBelow 2 = .ok (.iload_n 2, 1) := by decide +kernel
theorem dX6_numbersBelow_3 : decode cX6_numbersBelow 3 = .ok (.aload_n 0, 1) := by decide +kernel
theorem dX6_numbersBelow_4 : decode cX6_numbersBelow 4 = .ok (.getfield 7, 3) := by decide +kernel
theorem dX6_numbersBelow_7 : decode cX6_numbersBelow 7 = .ok (.if_icmp .ge 29, 3) := by decide +kernel
theorem dX6_numbersBelow_10 : decode cX6_numbersBelow 10 = .ok (.iload_n 2, 1) := by decide +kernel
theorem dX6_numbersBelow_11 : decode cX6_numbersBelow 11 = .ok (.aload_n 0, 1) := by decide +kernel
theorem dX6_numbersBelow_12 : decode cX6_numbersBelow 12 = .ok (.getfield 19, 3) := by decide +kernel
theorem dX6_numbersBelow_15 : decode cX6_numbersBelow 15 = .ok (.if_icmp .ge 21, 3) := by decide +kernel
theorem dX6_numbersBelow_18 : decode cX6_numbersBelow 18 = .ok (.aload_n 0, 1) := by decide +kernel
theorem dX6_numbersBelow_19 : decode cX6_numbersBelow 19 = .ok (.getfield 26, 3) := by decide +kernel
theorem dX6_numbersBelow_22 : decode cX6_numbersBelow 22 = .ok (.iload_n 2, 1) := by decide +kernel
theorem dX6_numbersBelow_23 : decode cX6_numbersBelow 23 = .ok (.iaload, 1) := by decide +kernel
theorem dX6_numbersBelow_24 : decode cX6_numbersBelow 24 = .ok (.iload_n 1, 1) := by decide +kernel
theorem dX6_numbersBelow_25 : decode cX6_numbersBelow 25 = .ok (.if_icmp .lt 5, 3) := by decide +kernel
theorem dX6_numbersBelow_28 : decode cX6_numbersBelow 28 = .ok (.iconst 0, 1) := by decide +kernel
theorem dX6_numbersBelow_29 : decode cX6_numbersBelow 29 = .ok (.ireturn, 1) := by decide +kernel
theorem dX6_numbersBelow_30 : decode cX6_numbersBelow 30 = .ok (.iinc 2 1, 3) := by decide +kernel
theorem dX6_numbersBelow_33 : decode cX6_numbersBelow 33 = .ok (.goto (-31), 3) := by decide +kernel
theorem dX6_numbersBelow_36 : decode cX6_numbersBelow 36 = .ok (.iconst 1, 1) := by decide +kernel
theorem dX6_numbersBelow_37 : decode cX6_numbersBelow 37 = .ok (.ireturn, 1) := by decide +kernel
theorem dX6_copy_0 : decode cX6_copy 0 = .ok (.aload_n 0, 1) := by decide +kernel
theorem dX6_copy_1 : decode cX6_copy 1 = .ok (.iconst 0, 1) := by decide +kernel
theorem dX6_copy_2 : decode cX6_copy 2 = .ok (.putfield 7, 3) := by decide +kernel
theorem dX6_copy_5 : decode cX6_copy 5 = .ok (.iconst 0, 1) := by decide +kernel
theorem dX6_copy_6 : decode cX6_copy 6 = .ok (.istore_n 2, 1) := by decide +kernel
theorem dX6_copy_7 : decode cX6_copy 7 = .ok (.iload_n 2, 1) := by decide +kernel
theorem dX6_copy_8 : decode cX6_copy 8 = .ok (.aload_n 1, 1) := by decide +kernel
theorem dX6_copy_9 : decode cX6_copy 9 = .ok (.getfield 7, 3) := by decide +kernel
theorem dX6_copy_12 : decode cX6_copy 12 = .ok (.if_icmp .ge 29, 3) := by decide +kernel
theorem dX6_copy_15 : decode cX6_copy 15 = .ok (.aload_n 0, 1) := by decide +kernel
theorem dX6_copy_16 : decode cX6_copy 16 = .ok (.aload_n 1, 1) := by decide +kernel
theorem dX6_copy_17 : decode cX6_copy 17 = .ok (.getfield 22, 3) := by decide +kernel
theorem dX6_copy_20 : decode cX6_copy 20 = .ok (.iload_n 2, 1) := by decide +kernel
theorem dX6_copy_21 : decode cX6_copy 21 = .ok (.invokestatic 29, 3) := by decide +kernel
theorem dX6_copy_24 : decode cX6_copy 24 = .ok (.aload_n 1, 1) := by decide +kernel
theorem dX6_copy_25 : decode cX6_copy 25 = .ok (.getfield 26, 3) := by decide +kernel
theorem dX6_copy_28 : decode cX6_copy 28 = .ok (.iload_n 2, 1) := by decide +kernel
theorem dX6_copy_29 : decode cX6_copy 29 = .ok (.invokestatic 29, 3) := by decide +kernel
theorem dX6_copy_32 : decode cX6_copy 32 = .ok (.invokevirtual 35, 3) := by decide +kernel
theorem dX6_copy_35 : decode cX6_copy 35 = .ok (.iinc 2 1, 3) := by decide +kernel
theorem dX6_copy_38 : decode cX6_copy 38 = .ok (.goto (-31), 3) := by decide +kernel
theorem dX6_copy_41 : decode cX6_copy 41 = .ok (.return_, 1) := by decide +kernel
theorem dX7_put_0 : decode cX7_put 0 = .ok (.bipush 24, 2) := by decide +kernel
theorem dX7_put_2 : decode cX7_put 2 = .ok (.istore_n 2, 1) := by decide +kernel
theorem dX7_put_3 : decode cX7_put 3 = .ok (.iload_n 2, 1) := by decide +kernel
theorem dX7_put_4 : decode cX7_put 4 = .ok (.ifCond .lt 49, 3) := by decide +kernel
theorem dX7_put_7 : decode cX7_put 7 = .ok (.aload_n 0, 1) := by decide +kernel
theorem dX7_put_8 : decode cX7_put 8 = .ok (.getfield 15, 3) := by decide +kernel
theorem dX7_put_11 : decode cX7_put 11 = .ok (.ifCond .lt 36, 3) := by decide +kernel
theorem dX7_put_14 : decode cX7_put 14 = .ok (.aload_n 0, 1) := by decide +kernel
theorem dX7_put_15 : decode cX7_put 15 = .ok (.getfield 15, 3) := by decide +kernel
theorem dX7_put_18 : decode cX7_put 18 = .ok (.sipush 600, 3) := by decide +kernel
theorem dX7_put_21 : decode cX7_put 21 = .ok (.if_icmp .ge 26, 3) := by decide +kernel
theorem dX7_put_24 : decode cX7_put 24 = .ok (.aload_n 0, 1) := by decide +kernel
theorem dX7_put_25 : decode cX7_put 25 = .ok (.getfield 9, 3) := by decide +kernel
theorem dX7_put_28 : decode cX7_put 28 = .ok (.aload_n 0, 1) := by decide +kernel
theorem dX7_put_29 : decode cX7_put 29 = .ok (.getfield 15, 3) := by decide +kernel
theorem dX7_put_32 : decode cX7_put 32 = .ok (.iload_n 1, 1) := by decide +kernel
theorem dX7_put_33 : decode cX7_put 33 = .ok (.iload_n 2, 1) := by decide +kernel
theorem dX7_put_34 : decode cX7_put 34 = .ok (.ishr, 1) := by decide +kernel
theorem dX7_put_35 : decode cX7_put 35 = .ok (.i2b, 1) := by decide +kernel
theorem dX7_put_36 : decode cX7_put 36 = .ok (.bastore, 1) := by decide +kernel
theorem dX7_put_37 : decode cX7_put 37 = .ok (.aload_n 0, 1) := by decide +kernel
theorem dX7_put_38 : decode cX7_put 38 = .ok (.dup, 1) := by decide +kernel
theorem dX7_put_39 : decode cX7_put 39 = .ok (.getfield 15, 3) := by decide +kernel
theorem dX7_put_42 : decode cX7_put 42 = .ok (.iconst 1, 1) := by decide +kernel
theorem dX7_put_43 : decode cX7_put 43 = .ok (.iadd, 1) := by decide +kernel
theorem dX7_put_44 : decode cX7_put 44 = .ok (.putfield 15, 3) := by decide +kernel
theorem dX7_put_47 : decode cX7_put 47 = .ok (.iinc 2 (-8), 3) := by decide +kernel
theorem dX7_put_50 : decode cX7_put 50 = .ok (.goto (-47), 3) := by decide +kernel
theorem dX7_put_53 : decode cX7_put 53 = .ok (.return_, 1) := by decide +kernel
theorem dX7_houseAt_0 : decode cX7_houseAt 0 = .ok (.iload_n 1, 1) := by decide +kernel
theorem dX7_houseAt_1 : decode cX7_houseAt 1 = .ok (.ifCond .lt 27, 3) := by decide +kernel
theorem dX7_houseAt_4 : decode cX7_houseAt 4 = .ok (.iload_n 1, 1) := by decide +kernel
theorem dX7_houseAt_5 : decode cX7_houseAt 5 = .ok (.aload_n 0, 1) := by decide +kernel
theorem dX7_houseAt_6 : decode cX7_houseAt 6 = .ok (.getfield 25, 3) := by decide +kernel
theorem dX7_houseAt_9 : decode cX7_houseAt 9 = .ok (.iconst 0, 1) := by decide +kernel
theorem dX7_houseAt_10 : decode cX7_houseAt 10 = .ok (.iaload, 1) := by decide +kernel
theorem dX7_houseAt_11 : decode cX7_houseAt 11 = .ok (.if_icmp .ge 17, 3) := by decide +kernel
theorem dX7_houseAt_14 : decode cX7_houseAt 14 = .ok (.iload_n 1, 1) := by decide +kernel
theorem dX7_houseAt_15 : decode cX7_houseAt 15 = .ok (.iconst 2, 1) := by decide +kernel
theorem dX7_houseAt_16 : decode cX7_houseAt 16 = .ok (.if_icmp .ge 12, 3) := by decide +kernel
theorem dX7_houseAt_19 : decode cX7_houseAt 19 = .ok (.aload_n 0, 1) := by decide +kernel
theorem dX7_houseAt_20 : decode cX7_houseAt 20 = .ok (.getfield 32, 3) := by decide +kernel
theorem dX7_houseAt_23 : decode cX7_houseAt 23 = .ok (.iload_n 1, 1) := by decide +kernel
theorem dX7_houseAt_24 : decode cX7_houseAt 24 = .ok (.aaload, 1) := by decide +kernel
theorem dX7_houseAt_25 : decode cX7_houseAt 25 = .ok (.goto 4, 3) := by decide +kernel
theorem dX7_houseAt_28 : decode cX7_houseAt 28 = .ok (.aconst_null, 1) := by decide +kernel
theorem dX7_houseAt_29 : decode cX7_houseAt 29 = .ok (.areturn, 1) := by decide +kernel
theorem dX7_nightsAt_0 : decode cX7_nightsAt 0 = .ok (.iload_n 1, 1) := by decide +kernel
theorem dX7_nightsAt_1 : decode cX7_nightsAt 1 = .ok (.ifCond .lt 27, 3) := by decide +kernel
theorem dX7_nightsAt_4 : decode cX7_nightsAt 4 = .ok (.iload_n 1, 1) := by decide +kernel
theorem dX7_nightsAt_5 : decode cX7_nightsAt 5 = .ok (.aload_n 0, 1) := by decide +kernel
theorem dX7_nightsAt_6 : decode cX7_nightsAt 6 = .ok (.getfield 25, 3) := by decide +kernel
theorem dX7_nightsAt_9 : decode cX7_nightsAt 9 = .ok (.iconst 1, 1) := by decide +kernel
theorem dX7_nightsAt_10 : decode cX7_nightsAt 10 = .ok (.iaload, 1) := by decide +kernel
theorem dX7_nightsAt_11 : decode cX7_nightsAt 11 = .ok (.if_icmp .ge 17, 3) := by decide +kernel
theorem dX7_nightsAt_14 : decode cX7_nightsAt 14 = .ok (.iload_n 1, 1) := by decide +kernel
theorem dX7_nightsAt_15 : decode cX7_nightsAt 15 = .ok (.iconst 2, 1) := by decide +kernel
theorem dX7_nightsAt_16 : decode cX7_nightsAt 16 = .ok (.if_icmp .ge 12, 3) := by decide +kernel
theorem dX7_nightsAt_19 : decode cX7_nightsAt 19 = .ok (.aload_n 0, 1) := by decide +kernel
theorem dX7_nightsAt_20 : decode cX7_nightsAt 20 = .ok (.getfield 41, 3) := by decide +kernel
theorem dX7_nightsAt_23 : decode cX7_nightsAt 23 = .ok (.iload_n 1, 1) := by decide +kernel
theorem dX7_nightsAt_24 : decode cX7_nightsAt 24 = .ok (.aaload, 1) := by decide +kernel
theorem dX7_nightsAt_25 : decode cX7_nightsAt 25 = .ok (.goto 4, 3) := by decide +kernel
theorem dX7_nightsAt_28 : decode cX7_nightsAt 28 = .ok (.aconst_null, 1) := by decide +kernel
theorem dX7_nightsAt_29 : decode cX7_nightsAt 29 = .ok (.areturn, 1) := by decide +kernel
theorem dX7_morningsAt_0 : decode cX7_morningsAt 0 = .ok (.iload_n 1, 1) := by decide +kernel
theorem dX7_morningsAt_1 : decode cX7_morningsAt 1 = .ok (.ifCond .lt 27, 3) := by decide +kernel
theorem dX7_morningsAt_4 : decode cX7_morningsAt 4 = .ok (.iload_n 1, 1) := by decide +kernel
theorem dX7_morningsAt_5 : decode cX7_morningsAt 5 = .ok (.aload_n 0, 1) := by decide +kernel
theorem dX7_morningsAt_6 : decode cX7_morningsAt 6 = .ok (.getfield 25, 3) := by decide +kernel
theorem dX7_morningsAt_9 : decode cX7_morningsAt 9 = .ok (.iconst 2, 1) := by decide +kernel
theorem dX7_morningsAt_10 : decode cX7_morningsAt 10 = .ok (.iaload, 1) := by decide +kernel
theorem dX7_morningsAt_11 : decode cX7_morningsAt 11 = .ok (.if_icmp .ge 17, 3) := by decide +kernel
theorem dX7_morningsAt_14 : decode cX7_morningsAt 14 = .ok (.iload_n 1, 1) := by decide +kernel
theorem dX7_morningsAt_15 : decode cX7_morningsAt 15 = .ok (.iconst 2, 1) := by decide +kernel
theorem dX7_morningsAt_16 : decode cX7_morningsAt 16 = .ok (.if_icmp .ge 12, 3) := by decide +kernel
theorem dX7_morningsAt_19 : decode cX7_morningsAt 19 = .ok (.aload_n 0, 1) := by decide +kernel
theorem dX7_morningsAt_20 : decode cX7_morningsAt 20 = .ok (.getfield 45, 3) := by decide +kernel
theorem dX7_morningsAt_23 : decode cX7_morningsAt 23 = .ok (.iload_n 1, 1) := by decide +kernel
theorem dX7_morningsAt_24 : decode cX7_morningsAt 24 = .ok (.aaload, 1) := by decide +kernel
theorem dX7_morningsAt_25 : decode cX7_morningsAt 25 = .ok (.goto 4, 3) := by decide +kernel
theorem dX7_morningsAt_28 : decode cX7_morningsAt 28 = .ok (.aconst_null, 1) := by decide +kernel
theorem dX7_morningsAt_29 : decode cX7_morningsAt 29 = .ok (.areturn, 1) := by decide +kernel
theorem dX7_numberFor_0 : decode cX7_numberFor 0 = .ok (.iload_n 1, 1) := by decide +kernel
theorem dX7_numberFor_1 : decode cX7_numberFor 1 = .ok (.ifCond .lt 8, 3) := by decide +kernel
theorem dX7_numberFor_4 : decode cX7_numberFor 4 = .ok (.iload_n 1, 1) := by decide +kernel
theorem dX7_numberFor_5 : decode cX7_numberFor 5 = .ok (.iconst 3, 1) := by decide +kernel
theorem dX7_numberFor_6 : decode cX7_numberFor 6 = .ok (.if_icmp .lt 5, 3) := by decide +kernel
theorem dX7_numberFor_9 : decode cX7_numberFor 9 = .ok (.iconst (-1), 1) := by decide +kernel
theorem dX7_numberFor_10 : decode cX7_numberFor 10 = .ok (.ireturn, 1) := by decide +kernel
theorem dX7_numberFor_11 : decode cX7_numberFor 11 = .ok (.iload_n 2, 1) := by decide +kernel
theorem dX7_numberFor_12 : decode cX7_numberFor 12 = .ok (.iconst (-1), 1) := by decide +kernel
theorem dX7_numberFor_13 : decode cX7_numberFor 13 = .ok (.if_icmp .ne 24, 3) := by decide +kernel
theorem dX7_numberFor_16 : decode cX7_numberFor 16 = .ok (.aload_n 0, 1) := by decide +kernel
theorem dX7_numberFor_17 : decode cX7_numberFor 17 = .ok (.getfield 25, 3) := by decide +kernel
theorem dX7_numberFor_20 : decode cX7_numberFor 20 = .ok (.iload_n 1, 1) := by decide +kernel
theorem dX7_numberFor_21 : decode cX7_numberFor 21 = .ok (.iaload, 1) := by decide +kernel
theorem dX7_numberFor_22 : decode cX7_numberFor 22 = .ok (.iconst 2, 1) := by decide +kernel
theorem dX7_numberFor_23 : decode cX7_numberFor 23 = .ok (.if_icmp .ge 12, 3) := by decide +kernel
theorem dX7_numberFor_26 : decode cX7_numberFor 26 = .ok (.aload_n 0, 1) := by decide +kernel
theorem dX7_numberFor_27 : decode cX7_numberFor 27 = .ok (.getfield 25, 3) := by decide +kernel
theorem dX7_numberFor_30 : decode cX7_numberFor 30 = .ok (.iload_n 1, 1) := by decide +kernel
theorem dX7_numberFor_31 : decode cX7_numberFor 31 = .ok (.iaload, 1) := by decide +kernel
theorem dX7_numberFor_32 : decode cX7_numberFor 32 = .ok (.goto 4, 3) := by decide +kernel
theorem dX7_numberFor_35 : decode cX7_numberFor 35 = .ok (.iconst (-1), 1) := by decide +kernel
theorem dX7_numberFor_36 : decode cX7_numberFor 36 = .ok (.ireturn, 1) := by decide +kernel
theorem dX7_numberFor_37 : decode cX7_numberFor 37 = .ok (.iload_n 2, 1) := by decide +kernel
theorem dX7_numberFor_38 : decode cX7_numberFor 38 = .ok (.ifCond .lt 17, 3) := by decide +kernel
theorem dX7_numberFor_41 : decode cX7_numberFor 41 = .ok (.iload_n 2, 1) := by decide +kernel
theorem dX7_numberFor_42 : decode cX7_numberFor 42 = .ok (.aload_n 0, 1) := by decide +kernel
theorem dX7_numberFor_43 : decode cX7_numberFor 43 = .ok (.getfield 25, 3) := by decide +kernel
theorem dX7_numberFor_46 : decode cX7_numberFor 46 = .ok (.iload_n 1, 1) := by decide +kernel
theorem dX7_numberFor_47 : decode cX7_numberFor 47 = .ok (.iaload, 1) := by decide +kernel
theorem dX7_numberFor_48 : decode cX7_numberFor 48 = .ok (.if_icmp .ge 7, 3) := by decide +kernel
theorem dX7_numberFor_51 : decode cX7_numberFor 51 = .ok (.iload_n 2, 1) := by decide +kernel
theorem dX7_numberFor_52 : decode cX7_numberFor 52 = .ok (.goto 4, 3) := by decide +kernel
theorem dX7_numberFor_55 : decode cX7_numberFor 55 = .ok (.iconst (-1), 1) := by decide +kernel
theorem dX7_numberFor_56 : decode cX7_numberFor 56 = .ok (.ireturn, 1) := by decide +kernel
theorem dX7_keep_0 : decode cX7_keep 0 = .ok (.iload_n 1, 1) := by decide +kernel
theorem dX7_keep_1 : decode cX7_keep 1 = .ok (.ifCond .lt 17, 3) := by decide +kernel
theorem dX7_keep_4 : decode cX7_keep 4 = .ok (.iload_n 1, 1) := by decide +kernel
theorem dX7_keep_5 : decode cX7_keep 5 = .ok (.iconst 3, 1) := by decide +kernel
theorem dX7_keep_6 : decode cX7_keep 6 = .ok (.if_icmp .ge 12, 3) := by decide +kernel
theorem dX7_keep_9 : decode cX7_keep 9 = .ok (.iload_n 2, 1) := by decide +kernel
theorem dX7_keep_10 : decode cX7_keep 10 = .ok (.ifCond .lt 8, 3) := by decide +kernel
theorem dX7_keep_13 : decode cX7_keep 13 = .ok (.iload_n 2, 1) := by decide +kernel
theorem dX7_keep_14 : decode cX7_keep 14 = .ok (.iconst 2, 1) := by decide +kernel
theorem dX7_keep_15 : decode cX7_keep 15 = .ok (.if_icmp .lt 4, 3) := by decide +kernel
theorem dX7_keep_18 : decode cX7_keep 18 = .ok (.return_, 1) := by decide +kernel
theorem dX7_keep_19 : decode cX7_keep 19 = .ok (.iload_n 1, 1) := by decide +kernel
theorem dX7_keep_20 : decode cX7_keep 20 = .ok (.ifCond .ne 16, 3) := by decide +kernel
theorem dX7_keep_23 : decode cX7_keep 23 = .ok (.aload_n 0, 1) := by decide +kernel
theorem dX7_keep_24 : decode cX7_keep 24 = .ok (.getfield 32, 3) := by decide +kernel
theorem dX7_keep_27 : decode cX7_keep 27 = .ok (.iload_n 2, 1) := by decide +kernel
theorem dX7_keep_28 : decode cX7_keep 28 = .ok (.aaload, 1) := by decide +kernel
theorem dX7_keep_29 : decode cX7_keep 29 = .ok (.aload_n 3, 1) := by decide +kernel
theorem dX7_keep_30 : decode cX7_keep 30 = .ok (.invokevirtual 48, 3) := by decide +kernel
theorem dX7_keep_33 : decode cX7_keep 33 = .ok (.goto 33, 3) := by decide +kernel
theorem dX7_keep_36 : decode cX7_keep 36 = .ok (.iload_n 1, 1) := by decide +kernel
theorem dX7_keep_37 : decode cX7_keep 37 = .ok (.iconst 1, 1) := by decide +kernel
theorem dX7_keep_38 : decode cX7_keep 38 = .ok (.if_icmp .ne 17, 3) := by decide +kernel
theorem dX7_keep_41 : decode cX7_keep 41 = .ok (.aload_n 0, 1) := by decide +kernel
theorem dX7_keep_42 : decode cX7_keep 42 = .ok (.getfield 41, 3) := by decide +kernel
theorem dX7_keep_45 : decode cX7_keep 45 = .ok (.iload_n 2, 1) := by decide +kernel
theorem dX7_keep_46 : decode cX7_keep 46 = .ok (.aaload, 1) := by decide +kernel
theorem dX7_keep_47 : decode cX7_keep 47 = .ok (.aload 4, 2) := by decide +kernel
theorem dX7_keep_49 : decode cX7_keep 49 = .ok (.invokevirtual 52, 3) := by decide +kernel
theorem dX7_keep_52 : decode cX7_keep 52 = .ok (.goto 14, 3) := by decide +kernel
theorem dX7_keep_55 : decode cX7_keep 55 = .ok (.aload_n 0, 1) := by decide +kernel
theorem dX7_keep_56 : decode cX7_keep 56 = .ok (.getfield 45, 3) := by decide +kernel
theorem dX7_keep_59 : decode cX7_keep 59 = .ok (.iload_n 2, 1) := by decide +kernel
theorem dX7_keep_60 : decode cX7_keep 60 = .ok (.aaload, 1) := by decide +kernel
theorem dX7_keep_61 : decode cX7_keep 61 = .ok (.aload 4, 2) := by decide +kernel
theorem dX7_keep_63 : decode cX7_keep 63 = .ok (.invokevirtual 52, 3) := by decide +kernel
theorem dX7_keep_66 : decode cX7_keep 66 = .ok (.aload_n 0, 1) := by decide +kernel
theorem dX7_keep_67 : decode cX7_keep 67 = .ok (.getfield 25, 3) := by decide +kernel
theorem dX7_keep_70 : decode cX7_keep 70 = .ok (.iload_n 1, 1) := by decide +kernel
theorem dX7_keep_71 : decode cX7_keep 71 = .ok (.aload_n 0, 1) := by decide +kernel
theorem dX7_keep_72 : decode cX7_keep 72 = .ok (.getfield 25, 3) := by decide +kernel
theorem dX7_keep_75 : decode cX7_keep 75 = .ok (.iload_n 1, 1) := by decide +kernel
theorem dX7_keep_76 : decode cX7_keep 76 = .ok (.iaload, 1) := by decide +kernel
theorem dX7_keep_77 : decode cX7_keep 77 = .ok (.iload_n 2, 1) := by decide +kernel
theorem dX7_keep_78 : decode cX7_keep 78 = .ok (.iconst 1, 1) := by decide +kernel
theorem dX7_keep_79 : decode cX7_keep 79 = .ok (.iadd, 1) := by decide +kernel
theorem dX7_keep_80 : decode cX7_keep 80 = .ok (.invokestatic 55, 3) := by decide +kernel
theorem dX7_keep_83 : decode cX7_keep 83 = .ok (.iastore, 1) := by decide +kernel
theorem dX7_keep_84 : decode cX7_keep 84 = .ok (.return_, 1) := by decide +kernel
theorem dX7_copy_0 : decode cX7_copy 0 = .ok (.aload_n 1, 1) := by decide +kernel
theorem dX7_copy_1 : decode cX7_copy 1 = .ok (.getfield 9, 3) := by decide +kernel
theorem dX7_copy_4 : decode cX7_copy 4 = .ok (.iconst 0, 1) := by decide +kernel
theorem dX7_copy_5 : decode cX7_copy 5 = .ok (.aload_n 0, 1) := by decide +kernel
theorem dX7_copy_6 : decode cX7_copy 6 = .ok (.getfield 9, 3) := by decide +kernel
theorem dX7_copy_9 : decode cX7_copy 9 = .ok (.iconst 0, 1) := by decide +kernel
theorem dX7_copy_10 : decode cX7_copy 10 = .ok (.sipush 600, 3) := by decide +kernel
theorem dX7_copy_13 : decode cX7_copy 13 = .ok (.invokestatic 61, 3) := by decide +kernel
theorem dX7_copy_16 : decode cX7_copy 16 = .ok (.aload_n 0, 1) := by decide +kernel
theorem dX7_copy_17 : decode cX7_copy 17 = .ok (.aload_n 1, 1) := by decide +kernel
theorem dX7_copy_18 : decode cX7_copy 18 = .ok (.getfield 15, 3) := by decide +kernel
theorem dX7_copy_21 : decode cX7_copy 21 = .ok (.putfield 15, 3) := by decide +kernel
theorem dX7_copy_24 : decode cX7_copy 24 = .ok (.aload_n 0, 1) := by decide +kernel
theorem dX7_copy_25 : decode cX7_copy 25 = .ok (.aload_n 1, 1) := by decide +kernel
theorem dX7_copy_26 : decode cX7_copy 26 = .ok (.getfield 19, 3) := by decide +kernel
theorem dX7_copy_29 : decode cX7_copy 29 = .ok (.putfield 19, 3) := by decide +kernel
theorem dX7_copy_32 : decode cX7_copy 32 = .ok (.aload_n 0, 1) := by decide +kernel
theorem dX7_copy_33 : decode cX7_copy 33 = .ok (.aload_n 1, 1) := by decide +kernel
theorem dX7_copy_34 : decode cX7_copy 34 = .ok (.getfield 22, 3) := by decide +kernel
theorem dX7_copy_37 : decode cX7_copy 37 = .ok (.putfield 22, 3) := by decide +kernel
theorem dX7_copy_40 : decode cX7_copy 40 = .ok (.aload_n 1, 1) := by decide +kernel
theorem dX7_copy_41 : decode cX7_copy 41 = .ok (.getfield 25, 3) := by decide +kernel
theorem dX7_copy_44 : decode cX7_copy 44 = .ok (.iconst 0, 1) := by decide +kernel
theorem dX7_copy_45 : decode cX7_copy 45 = .ok (.aload_n 0, 1) := by decide +kernel
theorem dX7_copy_46 : decode cX7_copy 46 = .ok (.getfield 25, 3) := by decide +kernel
theorem dX7_copy_49 : decode cX7_copy 49 = .ok (.iconst 0, 1) := by decide +kernel
theorem dX7_copy_50 : decode cX7_copy 50 = .ok (.iconst 3, 1) := by decide +kernel
theorem dX7_copy_51 : decode cX7_copy 51 = .ok (.invokestatic 61, 3) := by decide +kernel
theorem dX7_copy_54 : decode cX7_copy 54 = .ok (.iconst 0, 1) := by decide +kernel
theorem dX7_copy_55 : decode cX7_copy 55 = .ok (.istore_n 2, 1) := by decide +kernel
theorem dX7_copy_56 : decode cX7_copy 56 = .ok (.iload_n 2, 1) := by decide +kernel
theorem dX7_copy_57 : decode cX7_copy 57 = .ok (.iconst 2, 1) := by decide +kernel
theorem dX7_copy_58 : decode cX7_copy 58 = .ok (.if_icmp .ge 54, 3) := by decide +kernel
theorem dX7_copy_61 : decode cX7_copy 61 = .ok (.aload_n 0, 1) := by decide +kernel
theorem dX7_copy_62 : decode cX7_copy 62 = .ok (.getfield 32, 3) := by decide +kernel
theorem dX7_copy_65 : decode cX7_copy 65 = .ok (.iload_n 2, 1) := by decide +kernel
theorem dX7_copy_66 : decode cX7_copy 66 = .ok (.aaload, 1) := by decide +kernel
theorem dX7_copy_67 : decode cX7_copy 67 = .ok (.aload_n 1, 1) := by decide +kernel
theorem dX7_copy_68 : decode cX7_copy 68 = .ok (.getfield 32, 3) := by decide +kernel
theorem dX7_copy_71 : decode cX7_copy 71 = .ok (.iload_n 2, 1) := by decide +kernel
theorem dX7_copy_72 : decode cX7_copy 72 = .ok (.aaload, 1) := by decide +kernel
theorem dX7_copy_73 : decode cX7_copy 73 = .ok (.invokevirtual 48, 3) := by decide +kernel
theorem dX7_copy_76 : decode cX7_copy 76 = .ok (.aload_n 0, 1) := by decide +kernel
theorem dX7_copy_77 : decode cX7_copy 77 = .ok (.getfield 41, 3) := by decide +kernel
theorem dX7_copy_80 : decode cX7_copy 80 = .ok (.iload_n 2, 1) := by decide +kernel
theorem dX7_copy_81 : decode cX7_copy 81 = .ok (.aaload, 1) := by decide +kernel
theorem dX7_copy_82 : decode cX7_copy 82 = .ok (.aload_n 1, 1) := by decide +kernel
theorem dX7_copy_83 : decode cX7_copy 83 = .ok (.getfield 41, 3) := by decide +kernel
theorem dX7_copy_86 : decode cX7_copy 86 = .ok (.iload_n 2, 1) := by decide +kernel
theorem dX7_copy_87 : decode cX7_copy 87 = .ok (.aaload, 1) := by decide +kernel
theorem dX7_copy_88 : decode cX7_copy 88 = .ok (.invokevirtual 52, 3) := by decide +kernel
theorem dX7_copy_91 : decode cX7_copy 91 = .ok (.aload_n 0, 1) := by decide +kernel
theorem dX7_copy_92 : decode cX7_copy 92 = .ok (.getfield 45, 3) := by decide +kernel
theorem dX7_copy_95 : decode cX7_copy 95 = .ok (.iload_n 2, 1) := by decide +kernel
theorem dX7_copy_96 : decode cX7_copy 96 = .ok (.aaload, 1) := by decide +kernel
theorem dX7_copy_97 : decode cX7_copy 97 = .ok (.aload_n 1, 1) := by decide +kernel
theorem dX7_copy_98 : decode cX7_copy 98 = .ok (.getfield 45, 3) := by decide +kernel
theorem dX7_copy_101 : decode cX7_copy 101 = .ok (.iload_n 2, 1) := by decide +kernel
theorem dX7_copy_102 : decode cX7_copy 102 = .ok (.aaload, 1) := by decide +kernel
theorem dX7_copy_103 : decode cX7_copy 103 = .ok (.invokevirtual 52, 3) := by decide +kernel
theorem dX7_copy_106 : decode cX7_copy 106 = .ok (.iinc 2 1, 3) := by decide +kernel
theorem dX7_copy_109 : decode cX7_copy 109 = .ok (.goto (-53), 3) := by decide +kernel
theorem dX7_copy_112 : decode cX7_copy 112 = .ok (.return_, 1) := by decide +kernel
