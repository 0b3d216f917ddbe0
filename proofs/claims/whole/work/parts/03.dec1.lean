theorem dX0_init_0 : decode cX0_init 0 = .ok (.aload_n 0, 1) := by decide +kernel
theorem dX0_init_1 : decode cX0_init 1 = .ok (.invokespecial 3, 3) := by decide +kernel
theorem dX0_init_4 : decode cX0_init 4 = .ok (.aload_n 0, 1) := by decide +kernel
theorem dX0_init_5 : decode cX0_init 5 = .ok (.bipush 12, 2) := by decide +kernel
theorem dX0_init_7 : decode cX0_init 7 = .ok (.newarray .int, 2) := by decide +kernel
theorem dX0_init_9 : decode cX0_init 9 = .ok (.putfield 9, 3) := by decide +kernel
theorem dX0_init_12 : decode cX0_init 12 = .ok (.aload_n 0, 1) := by decide +kernel
theorem dX0_init_13 : decode cX0_init 13 = .ok (.bipush 12, 2) := by decide +kernel
theorem dX0_init_15 : decode cX0_init 15 = .ok (.newarray .int, 2) := by decide +kernel
theorem dX0_init_17 : decode cX0_init 17 = .ok (.putfield 15, 3) := by decide +kernel
theorem dX0_init_20 : decode cX0_init 20 = .ok (.return_, 1) := by decide +kernel
theorem dX0_add_0 : decode cX0_add 0 = .ok (.iload_n 1, 1) := by decide +kernel
theorem dX0_add_1 : decode cX0_add 1 = .ok (.bipush 40, 2) := by decide +kernel
theorem dX0_add_3 : decode cX0_add 3 = .ok (.invokestatic 18, 3) := by decide +kernel
theorem dX0_add_6 : decode cX0_add 6 = .ok (.ifCond .ne 12, 3) := by decide +kernel
theorem dX0_add_9 : decode cX0_add 9 = .ok (.iload_n 2, 1) := by decide +kernel
theorem dX0_add_10 : decode cX0_add 10 = .ok (.bipush 8, 2) := by decide +kernel
theorem dX0_add_12 : decode cX0_add 12 = .ok (.invokestatic 18, 3) := by decide +kernel
theorem dX0_add_15 : decode cX0_add 15 = .ok (.ifCond .eq 6, 3) := by decide +kernel
theorem dX0_add_18 : decode cX0_add 18 = .ok (.bipush (-2), 2) := by decide +kernel
theorem dX0_add_20 : decode cX0_add 20 = .ok (.ireturn, 1) := by decide +kernel
theorem dX0_add_21 : decode cX0_add 21 = .ok (.aload_n 0, 1) := by decide +kernel
theorem dX0_add_22 : decode cX0_add 22 = .ok (.getfield 22, 3) := by decide +kernel
theorem dX0_add_25 : decode cX0_add 25 = .ok (.bipush 12, 2) := by decide +kernel
theorem dX0_add_27 : decode cX0_add 27 = .ok (.if_icmp .lt 6, 3) := by decide +kernel
theorem dX0_add_30 : decode cX0_add 30 = .ok (.bipush (-4), 2) := by decide +kernel
theorem dX0_add_32 : decode cX0_add 32 = .ok (.ireturn, 1) := by decide +kernel
theorem dX0_add_33 : decode cX0_add 33 = .ok (.aload_n 0, 1) := by decide +kernel
theorem dX0_add_34 : decode cX0_add 34 = .ok (.getfield 9, 3) := by decide +kernel
theorem dX0_add_37 : decode cX0_add 37 = .ok (.aload_n 0, 1) := by decide +kernel
theorem dX0_add_38 : decode cX0_add 38 = .ok (.getfield 22, 3) := by decide +kernel
theorem dX0_add_41 : decode cX0_add 41 = .ok (.iload_n 1, 1) := by decide +kernel
theorem dX0_add_42 : decode cX0_add 42 = .ok (.iastore, 1) := by decide +kernel
theorem dX0_add_43 : decode cX0_add 43 = .ok (.aload_n 0, 1) := by decide +kernel
theorem dX0_add_44 : decode cX0_add 44 = .ok (.getfield 15, 3) := by decide +kernel
theorem dX0_add_47 : decode cX0_add 47 = .ok (.aload_n 0, 1) := by decide +kernel
theorem dX0_add_48 : decode cX0_add 48 = .ok (.getfield 22, 3) := by decide +kernel
theorem dX0_add_51 : decode cX0_add 51 = .ok (.iload_n 2, 1) := by decide +kernel
theorem dX0_add_52 : decode cX0_add 52 = .ok (.iastore, 1) := by decide +kernel
theorem dX0_add_53 : decode cX0_add 53 = .ok (.aload_n 0, 1) := by decide +kernel
theorem dX0_add_54 : decode cX0_add 54 = .ok (.dup, 1) := by decide +kernel
theorem dX0_add_55 : decode cX0_add 55 = .ok (.getfield 22, 3) := by decide +kernel
theorem dX0_add_58 : decode cX0_add 58 = .ok (.iconst 1, 1) := by decide +kernel
theorem dX0_add_59 : decode cX0_add 59 = .ok (.iadd, 1) := by decide +kernel
theorem dX0_add_60 : decode cX0_add 60 = .ok (.putfield 22, 3) := by decide +kernel
theorem dX0_add_63 : decode cX0_add 63 = .ok (.aload_n 0, 1) := by decide +kernel
theorem dX0_add_64 : decode cX0_add 64 = .ok (.getfield 22, 3) := by decide +kernel
theorem dX0_add_67 : decode cX0_add 67 = .ok (.ireturn, 1) := by decide +kernel
theorem dX1_init_0 : decode cX1_init 0 = .ok (.aload_n 0, 1) := by decide +kernel
theorem dX1_init_1 : decode cX1_init 1 = .ok (.invokespecial 3, 3) := by decide +kernel
theorem dX1_init_4 : decode cX1_init 4 = .ok (.aload_n 0, 1) := by decide +kernel
theorem dX1_init_5 : decode cX1_init 5 = .ok (.bipush 8, 2) := by decide +kernel
theorem dX1_init_7 : decode cX1_init 7 = .ok (.newarray .int, 2) := by decide +kernel
theorem dX1_init_9 : decode cX1_init 9 = .ok (.putfield 9, 3) := by decide +kernel
theorem dX1_init_12 : decode cX1_init 12 = .ok (.aload_n 0, 1) := by decide +kernel
theorem dX1_init_13 : decode cX1_init 13 = .ok (.bipush 8, 2) := by decide +kernel
theorem dX1_init_15 : decode cX1_init 15 = .ok (.newarray .int, 2) := by decide +kernel
theorem dX1_init_17 : decode cX1_init 17 = .ok (.putfield 15, 3) := by decide +kernel
theorem dX1_init_20 : decode cX1_init 20 = .ok (.aload_n 0, 1) := by decide +kernel
theorem dX1_init_21 : decode cX1_init 21 = .ok (.bipush 8, 2) := by decide +kernel
theorem dX1_init_23 : decode cX1_init 23 = .ok (.newarray .int, 2) := by decide +kernel
theorem dX1_init_25 : decode cX1_init 25 = .ok (.putfield 18, 3) := by decide +kernel
theorem dX1_init_28 : decode cX1_init 28 = .ok (.aload_n 0, 1) := by decide +kernel
theorem dX1_init_29 : decode cX1_init 29 = .ok (.iconst (-1), 1) := by decide +kernel
theorem dX1_init_30 : decode cX1_init 30 = .ok (.putfield 21, 3) := by decide +kernel
theorem dX1_init_33 : decode cX1_init 33 = .ok (.aload_n 0, 1) := by decide +kernel
theorem dX1_init_34 : decode cX1_init 34 = .ok (.iload_n 1, 1) := by decide +kernel
theorem dX1_init_35 : decode cX1_init 35 = .ok (.putfield 25, 3) := by decide +kernel
theorem dX1_init_38 : decode cX1_init 38 = .ok (.return_, 1) := by decide +kernel
theorem dX1_add_0 : decode cX1_add 0 = .ok (.aload_n 0, 1) := by decide +kernel
theorem dX1_add_1 : decode cX1_add 1 = .ok (.getfield 21, 3) := by decide +kernel
theorem dX1_add_4 : decode cX1_add 4 = .ok (.iconst (-1), 1) := by decide +kernel
theorem dX1_add_5 : decode cX1_add 5 = .ok (.if_icmp .ne 19, 3) := by decide +kernel
theorem dX1_add_8 : decode cX1_add 8 = .ok (.aload_n 0, 1) := by decide +kernel
theorem dX1_add_9 : decode cX1_add 9 = .ok (.iload_n 1, 1) := by decide +kernel
theorem dX1_add_10 : decode cX1_add 10 = .ok (.invokevirtual 29, 3) := by decide +kernel
theorem dX1_add_13 : decode cX1_add 13 = .ok (.ifCond .ne 11, 3) := by decide +kernel
theorem dX1_add_16 : decode cX1_add 16 = .ok (.aload_n 0, 1) := by decide +kernel
theorem dX1_add_17 : decode cX1_add 17 = .ok (.aload_n 0, 1) := by decide +kernel
theorem dX1_add_18 : decode cX1_add 18 = .ok (.getfield 33, 3) := by decide +kernel
theorem dX1_add_21 : decode cX1_add 21 = .ok (.putfield 21, 3) := by decide +kernel
theorem dX1_add_24 : decode cX1_add 24 = .ok (.aload_n 0, 1) := by decide +kernel
theorem dX1_add_25 : decode cX1_add 25 = .ok (.dup, 1) := by decide +kernel
theorem dX1_add_26 : decode cX1_add 26 = .ok (.getfield 33, 3) := by decide +kernel
theorem dX1_add_29 : decode cX1_add 29 = .ok (.iconst 1, 1) := by decide +kernel
theorem dX1_add_30 : decode cX1_add 30 = .ok (.iadd, 1) := by decide +kernel
theorem dX1_add_31 : decode cX1_add 31 = .ok (.putfield 33, 3) := by decide +kernel
theorem dX1_add_34 : decode cX1_add 34 = .ok (.aload_n 0, 1) := by decide +kernel
theorem dX1_add_35 : decode cX1_add 35 = .ok (.invokevirtual 36, 3) := by decide +kernel
theorem dX1_add_38 : decode cX1_add 38 = .ok (.return_, 1) := by decide +kernel
theorem dX1_dropLast_0 : decode cX1_dropLast 0 = .ok (.aload_n 0, 1) := by decide +kernel
theorem dX1_dropLast_1 : decode cX1_dropLast 1 = .ok (.dup, 1) := by decide +kernel
theorem dX1_dropLast_2 : decode cX1_dropLast 2 = .ok (.getfield 33, 3) := by decide +kernel
theorem dX1_dropLast_5 : decode cX1_dropLast 5 = .ok (.iconst 1, 1) := by decide +kernel
theorem dX1_dropLast_6 : decode cX1_dropLast 6 = .ok (.isub, 1) := by decide +kernel
theorem dX1_dropLast_7 : decode cX1_dropLast 7 = .ok (.putfield 33, 3) := by decide +kernel
theorem dX1_dropLast_10 : decode cX1_dropLast 10 = .ok (.aload_n 0, 1) := by decide +kernel
theorem dX1_dropLast_11 : decode cX1_dropLast 11 = .ok (.getfield 21, 3) := by decide +kernel
theorem dX1_dropLast_14 : decode cX1_dropLast 14 = .ok (.aload_n 0, 1) := by decide +kernel
theorem dX1_dropLast_15 : decode cX1_dropLast 15 = .ok (.getfield 33, 3) := by decide +kernel
theorem dX1_dropLast_18 : decode cX1_dropLast 18 = .ok (.if_icmp .ne 8, 3) := by decide +kernel
theorem dX1_dropLast_21 : decode cX1_dropLast 21 = .ok (.aload_n 0, 1) := by decide +kernel
theorem dX1_dropLast_22 : decode cX1_dropLast 22 = .ok (.iconst (-1), 1) := by decide +kernel
theorem dX1_dropLast_23 : decode cX1_dropLast 23 = .ok (.putfield 21, 3) := by decide +kernel
theorem dX1_dropLast_26 : decode cX1_dropLast 26 = .ok (.aload_n 0, 1) := by decide +kernel
theorem dX1_dropLast_27 : decode cX1_dropLast 27 = .ok (.invokevirtual 36, 3) := by decide +kernel
theorem dX1_dropLast_30 : decode cX1_dropLast 30 = .ok (.return_, 1) := by decide +kernel
theorem dX1_clear_0 : decode cX1_clear 0 = .ok (.aload_n 0, 1) := by decide +kernel
theorem dX1_clear_1 : decode cX1_clear 1 = .ok (.iconst 0, 1) := by decide +kernel
theorem dX1_clear_2 : decode cX1_clear 2 = .ok (.putfield 33, 3) := by decide +kernel
theorem dX1_clear_5 : decode cX1_clear 5 = .ok (.aload_n 0, 1) := by decide +kernel
theorem dX1_clear_6 : decode cX1_clear 6 = .ok (.iconst (-1), 1) := by decide +kernel
theorem dX1_clear_7 : decode cX1_clear 7 = .ok (.putfield 21, 3) := by decide +kernel
theorem dX1_clear_10 : decode cX1_clear 10 = .ok (.aload_n 0, 1) := by decide +kernel
theorem dX1_clear_11 : decode cX1_clear 11 = .ok (.iconst 0, 1) := by decide +kernel
theorem dX1_clear_12 : decode cX1_clear 12 = .ok (.putfield 39, 3) := by decide +kernel
theorem dX1_clear_15 : decode cX1_clear 15 = .ok (.return_, 1) := by decide +kernel
theorem dX1_countWhole_0 : decode cX1_countWhole 0 = .ok (.aload_n 0, 1) := by decide +kernel
theorem dX1_countWhole_1 : decode cX1_countWhole 1 = .ok (.aload_n 0, 1) := by decide +kernel
theorem dX1_countWhole_2 : decode cX1_countWhole 2 = .ok (.invokevirtual 42, 3) := by decide +kernel
theorem dX1_countWhole_5 : decode cX1_countWhole 5 = .ok (.iconst (-1), 1) := by decide +kernel
theorem dX1_countWhole_6 : decode cX1_countWhole 6 = .ok (.if_icmp .ne 15, 3) := by decide +kernel
theorem dX1_countWhole_9 : decode cX1_countWhole 9 = .ok (.aload_n 0, 1) := by decide +kernel
theorem dX1_countWhole_10 : decode cX1_countWhole 10 = .ok (.getfield 33, 3) := by decide +kernel
theorem dX1_countWhole_13 : decode cX1_countWhole 13 = .ok (.iconst 1, 1) := by decide +kernel
theorem dX1_countWhole_14 : decode cX1_countWhole 14 = .ok (.iadd, 1) := by decide +kernel
theorem dX1_countWhole_15 : decode cX1_countWhole 15 = .ok (.bipush 6, 2) := by decide +kernel
theorem dX1_countWhole_17 : decode cX1_countWhole 17 = .ok (.idiv, 1) := by decide +kernel
theorem dX1_countWhole_18 : decode cX1_countWhole 18 = .ok (.goto 4, 3) := by decide +kernel
theorem dX1_countWhole_21 : decode cX1_countWhole 21 = .ok (.iconst 0, 1) := by decide +kernel
theorem dX1_countWhole_22 : decode cX1_countWhole 22 = .ok (.putfield 39, 3) := by decide +kernel
theorem dX1_countWhole_25 : decode cX1_countWhole 25 = .ok (.return_, 1) := by decide +kernel
theorem dX1_faultPlace_0 : decode cX1_faultPlace 0 = .ok (.aload_n 0, 1) := by decide +kernel
theorem dX1_faultPlace_1 : decode cX1_faultPlace 1 = .ok (.getfield 21, 3) := by decide +kernel
theorem dX1_faultPlace_4 : decode cX1_faultPlace 4 = .ok (.iconst (-1), 1) := by decide +kernel
theorem dX1_faultPlace_5 : decode cX1_faultPlace 5 = .ok (.if_icmp .eq 8, 3) := by decide +kernel
theorem dX1_faultPlace_8 : decode cX1_faultPlace 8 = .ok (.aload_n 0, 1) := by decide +kernel
theorem dX1_faultPlace_9 : decode cX1_faultPlace 9 = .ok (.getfield 21, 3) := by decide +kernel
theorem dX1_faultPlace_12 : decode cX1_faultPlace 12 = .ok (.ireturn, 1) := by decide +kernel
theorem dX1_faultPlace_13 : decode cX1_faultPlace 13 = .ok (.aload_n 0, 1) := by decide +kernel
theorem dX1_faultPlace_14 : decode cX1_faultPlace 14 = .ok (.getfield 33, 3) := by decide +kernel
theorem dX1_faultPlace_17 : decode cX1_faultPlace 17 = .ok (.ifCond .eq 14, 3) := by decide +kernel
theorem dX1_faultPlace_20 : decode cX1_faultPlace 20 = .ok (.aload_n 0, 1) := by decide +kernel
theorem dX1_faultPlace_21 : decode cX1_faultPlace 21 = .ok (.getfield 33, 3) := by decide +kernel
theorem dX1_faultPlace_24 : decode cX1_faultPlace 24 = .ok (.bipush 6, 2) := by decide +kernel
theorem dX1_faultPlace_26 : decode cX1_faultPlace 26 = .ok (.irem, 1) := by decide +kernel
theorem dX1_faultPlace_27 : decode cX1_faultPlace 27 = .ok (.iconst 5, 1) := by decide +kernel
theorem dX1_faultPlace_28 : decode cX1_faultPlace 28 = .ok (.if_icmp .ne 7, 3) := by decide +kernel
theorem dX1_faultPlace_31 : decode cX1_faultPlace 31 = .ok (.iconst (-1), 1) := by decide +kernel
theorem dX1_faultPlace_32 : decode cX1_faultPlace 32 = .ok (.goto 7, 3) := by decide +kernel
theorem dX1_faultPlace_35 : decode cX1_faultPlace 35 = .ok (.aload_n 0, 1) := by decide +kernel
theorem dX1_faultPlace_36 : decode cX1_faultPlace 36 = .ok (.getfield 33, 3) := by decide +kernel
theorem dX1_faultPlace_39 : decode cX1_faultPlace 39 = .ok (.ireturn, 1) := by decide +kernel
theorem dX1_takes_0 : decode cX1_takes 0 = .ok (.aload_n 0, 1) := by decide +kernel
theorem dX1_takes_1 : decode cX1_takes 1 = .ok (.getfield 33, 3) := by decide +kernel
theorem dX1_takes_4 : decode cX1_takes 4 = .ok (.bipush 6, 2) := by decide +kernel
theorem dX1_takes_6 : decode cX1_takes 6 = .ok (.idiv, 1) := by decide +kernel
theorem dX1_takes_7 : decode cX1_takes 7 = .ok (.istore_n 2, 1) := by decide +kernel
theorem dX1_takes_8 : decode cX1_takes 8 = .ok (.aload_n 0, 1) := by decide +kernel
theorem dX1_takes_9 : decode cX1_takes 9 = .ok (.getfield 33, 3) := by decide +kernel
theorem dX1_takes_12 : decode cX1_takes 12 = .ok (.bipush 6, 2) := by decide +kernel
theorem dX1_takes_14 : decode cX1_takes 14 = .ok (.irem, 1) := by decide +kernel
theorem dX1_takes_15 : decode cX1_takes 15 = .ok (.istore_n 3, 1) := by decide +kernel
theorem dX1_takes_16 : decode cX1_takes 16 = .ok (.iload_n 2, 1) := by decide +kernel
theorem dX1_takes_17 : decode cX1_takes 17 = .ok (.bipush 8, 2) := by decide +kernel
theorem dX1_takes_19 : decode cX1_takes 19 = .ok (.if_icmp .lt 5, 3) := by decide +kernel
theorem dX1_takes_22 : decode cX1_takes 22 = .ok (.iconst 0, 1) := by decide +kernel
theorem dX1_takes_23 : decode cX1_takes 23 = .ok (.ireturn, 1) := by decide +kernel
theorem dX1_takes_24 : decode cX1_takes 24 = .ok (.iload_n 3, 1) := by decide +kernel
theorem dX1_takes_25 : decode cX1_takes 25 = .ok (.iconst 4, 1) := by decide +kernel
theorem dX1_takes_26 : decode cX1_takes 26 = .ok (.if_icmp .ge 13, 3) := by decide +kernel
theorem dX1_takes_29 : decode cX1_takes 29 = .ok (.aload_n 0, 1) := by decide +kernel
theorem dX1_takes_30 : decode cX1_takes 30 = .ok (.iload_n 2, 1) := by decide +kernel
theorem dX1_takes_31 : decode cX1_takes 31 = .ok (.iconst 1, 1) := by decide +kernel
theorem dX1_takes_32 : decode cX1_takes 32 = .ok (.iload_n 3, 1) := by decide +kernel
theorem dX1_takes_33 : decode cX1_takes 33 = .ok (.ishl, 1) := by decide +kernel
theorem dX1_takes_34 : decode cX1_takes 34 = .ok (.iload_n 1, 1) := by decide +kernel
theorem dX1_takes_35 : decode cX1_takes 35 = .ok (.invokevirtual 46, 3) := by decide +kernel
theorem dX1_takes_38 : decode cX1_takes 38 = .ok (.ireturn, 1) := by decide +kernel
theorem dX1_takes_39 : decode cX1_takes 39 = .ok (.iload_n 3, 1) := by decide +kernel
theorem dX1_takes_40 : decode cX1_takes 40 = .ok (.iconst 4, 1) := by decide +kernel
theorem dX1_takes_41 : decode cX1_takes 41 = .ok (.if_icmp .ne 12, 3) := by decide +kernel
theorem dX1_takes_44 : decode cX1_takes 44 = .ok (.aload_n 0, 1) := by decide +kernel
theorem dX1_takes_45 : decode cX1_takes 45 = .ok (.iload_n 2, 1) := by decide +kernel
theorem dX1_takes_46 : decode cX1_takes 46 = .ok (.iload_n 1, 1) := by decide +kernel
theorem dX1_takes_47 : decode cX1_takes 47 = .ok (.invokevirtual 50, 3) := by decide +kernel
theorem dX1_takes_50 : decode cX1_takes 50 = .ok (.goto 14, 3) := by decide +kernel
theorem dX1_takes_53 : decode cX1_takes 53 = .ok (.iload_n 1, 1) := by decide +kernel
theorem dX1_takes_54 : decode cX1_takes 54 = .ok (.bipush 59, 2) := by decide +kernel
theorem dX1_takes_56 : decode cX1_takes 56 = .ok (.if_icmp .ne 7, 3) := by decide +kernel
theorem dX1_takes_59 : decode cX1_takes 59 = .ok (.iconst 1, 1) := by decide +kernel
theorem dX1_takes_60 : decode cX1_takes 60 = .ok (.goto 4, 3) := by decide +kernel
theorem dX1_takes_63 : decode cX1_takes 63 = .ok (.iconst 0, 1) := by decide +kernel
theorem dX1_takes_64 : decode cX1_takes 64 = .ok (.ireturn, 1) := by decide +kernel
theorem dX1_takesLetter_0 : decode cX1_takesLetter 0 = .ok (.aload_n 0, 1) := by decide +kernel
theorem dX1_takesLetter_1 : decode cX1_takesLetter 1 = .ok (.getfield 9, 3) := by decide +kernel
theorem dX1_takesLetter_4 : decode cX1_takesLetter 4 = .ok (.iload_n 1, 1) := by decide +kernel
theorem dX1_takesLetter_5 : decode cX1_takesLetter 5 = .ok (.dup2, 1) := by decide +kernel
theorem dX1_takesLetter_6 : decode cX1_takesLetter 6 = .ok (.iaload, 1) := by decide +kernel
theorem dX1_takesLetter_7 : decode cX1_takesLetter 7 = .ok (.iload_n 2, 1) := by decide +kernel
theorem dX1_takesLetter_8 : decode cX1_takesLetter 8 = .ok (.iconst (-1), 1) := by decide +kernel
theorem dX1_takesLetter_9 : decode cX1_takesLetter 9 = .ok (.ixor, 1) := by decide +kernel
theorem dX1_takesLetter_10 : decode cX1_takesLetter 10 = .ok (.iand, 1) := by decide +kernel
theorem dX1_takesLetter_11 : decode cX1_takesLetter 11 = .ok (.iastore, 1) := by decide +kernel
theorem dX1_takesLetter_12 : decode cX1_takesLetter 12 = .ok (.aload_n 0, 1) := by decide +kernel
theorem dX1_takesLetter_13 : decode cX1_takesLetter 13 = .ok (.getfield 15, 3) := by decide +kernel
theorem dX1_takesLetter_16 : decode cX1_takesLetter 16 = .ok (.iload_n 1, 1) := by decide +kernel
theorem dX1_takesLetter_17 : decode cX1_takesLetter 17 = .ok (.dup2, 1) := by decide +kernel
theorem dX1_takesLetter_18 : decode cX1_takesLetter 18 = .ok (.iaload, 1) := by decide +kernel
theorem dX1_takesLetter_19 : decode cX1_takesLetter 19 = .ok (.iload_n 2, 1) := by decide +kernel
theorem dX1_takesLetter_20 : decode cX1_takesLetter 20 = .ok (.iconst (-1), 1) := by decide +kernel
theorem dX1_takesLetter_21 : decode cX1_takesLetter 21 = .ok (.ixor, 1) := by decide +kernel
theorem dX1_takesLetter_22 : decode cX1_takesLetter 22 = .ok (.iand, 1) := by decide +kernel
theorem dX1_takesLetter_23 : decode cX1_takesLetter 23 = .ok (.iastore, 1) := by decide +kernel
theorem dX1_takesLetter_24 : decode cX1_takesLetter 24 = .ok (.iload_n 3, 1) := by decide +kernel
theorem dX1_takesLetter_25 : decode cX1_takesLetter 25 = .ok (.bipush 63, 2) := by decide +kernel
theorem dX1_takesLetter_27 : decode cX1_takesLetter 27 = .ok (.if_icmp .ne 8, 3) := by decide +kernel
theorem dX1_takesLetter_30 : decode cX1_takesLetter 30 = .ok (.aload_n 0, 1) := by decide +kernel
theorem dX1_takesLetter_31 : decode cX1_takesLetter 31 = .ok (.getfield 25, 3) := by decide +kernel
theorem dX1_takesLetter_34 : decode cX1_takesLetter 34 = .ok (.ireturn, 1) := by decide +kernel
theorem dX1_takesLetter_35 : decode cX1_takesLetter 35 = .ok (.aload_n 0, 1) := by decide +kernel
theorem dX1_takesLetter_36 : decode cX1_takesLetter 36 = .ok (.getfield 9, 3) := by decide +kernel
theorem dX1_takesLetter_39 : decode cX1_takesLetter 39 = .ok (.iload_n 1, 1) := by decide +kernel
theorem dX1_takesLetter_40 : decode cX1_takesLetter 40 = .ok (.dup2, 1) := by decide +kernel
theorem dX1_takesLetter_41 : decode cX1_takesLetter 41 = .ok (.iaload, 1) := by decide +kernel
theorem dX1_takesLetter_42 : decode cX1_takesLetter 42 = .ok (.iload_n 2, 1) := by decide +kernel
theorem dX1_takesLetter_43 : decode cX1_takesLetter 43 = .ok (.ior, 1) := by decide +kernel
theorem dX1_takesLetter_44 : decode cX1_takesLetter 44 = .ok (.iastore, 1) := by decide +kernel
theorem dX1_takesLetter_45 : decode cX1_takesLetter 45 = .ok (.iload_n 3, 1) := by decide +kernel
theorem dX1_takesLetter_46 : decode cX1_takesLetter 46 = .ok (.bipush 104, 2) := by decide +kernel
theorem dX1_takesLetter_48 : decode cX1_takesLetter 48 = .ok (.if_icmp .ne 13, 3) := by decide +kernel
theorem dX1_takesLetter_51 : decode cX1_takesLetter 51 = .ok (.aload_n 0, 1) := by decide +kernel
theorem dX1_takesLetter_52 : decode cX1_takesLetter 52 = .ok (.getfield 15, 3) := by decide +kernel
theorem dX1_takesLetter_55 : decode cX1_takesLetter 55 = .ok (.iload_n 1, 1) := by decide +kernel
theorem dX1_takesLetter_56 : decode cX1_takesLetter 56 = .ok (.dup2, 1) := by decide +kernel
theorem dX1_takesLetter_57 : decode cX1_takesLetter 57 = .ok (.iaload, 1) := by decide +kernel
theorem dX1_takesLetter_58 : decode cX1_takesLetter 58 = .ok (.iload_n 2, 1) := by decide +kernel
theorem dX1_takesLetter_59 : decode cX1_takesLetter 59 = .ok (.ior, 1) := by decide +kernel
theorem dX1_takesLetter_60 : decode cX1_takesLetter 60 = .ok (.iastore, 1) := by decide +kernel
theorem dX1_takesLetter_61 : decode cX1_takesLetter 61 = .ok (.iload_n 3, 1) := by decide +kernel
theorem dX1_takesLetter_62 : decode cX1_takesLetter 62 = .ok (.bipush 104, 2) := by decide +kernel
theorem dX1_takesLetter_64 : decode cX1_takesLetter 64 = .ok (.if_icmp .eq 9, 3) := by decide +kernel
theorem dX1_takesLetter_67 : decode cX1_takesLetter 67 = .ok (.iload_n 3, 1) := by decide +kernel
theorem dX1_takesLetter_68 : decode cX1_takesLetter 68 = .ok (.bipush 108, 2) := by decide +kernel
theorem dX1_takesLetter_70 : decode cX1_takesLetter 70 = .ok (.if_icmp .ne 7, 3) := by decide +kernel
theorem dX1_takesLetter_73 : decode cX1_takesLetter 73 = .ok (.iconst 1, 1) := by decide +kernel
theorem dX1_takesLetter_74 : decode cX1_takesLetter 74 = .ok (.goto 4, 3) := by decide +kernel
theorem dX1_takesLetter_77 : decode cX1_takesLetter 77 = .ok (.iconst 0, 1) := by decide +kernel
theorem dX1_takesLetter_78 : decode cX1_takesLetter 78 = .ok (.ireturn, 1) := by decide +kernel
theorem dX1_takesFigure_0 : decode cX1_takesFigure 0 = .ok (.aload_n 0, 1) := by decide +kernel
theorem dX1_takesFigure_1 : decode cX1_takesFigure 1 = .ok (.getfield 18, 3) := by decide +kernel
theorem dX1_takesFigure_4 : decode cX1_takesFigure 4 = .ok (.iload_n 1, 1) := by decide +kernel
theorem dX1_takesFigure_5 : decode cX1_takesFigure 5 = .ok (.iload_n 2, 1) := by decide +kernel
theorem dX1_takesFigure_6 : decode cX1_takesFigure 6 = .ok (.bipush 48, 2) := by decide +kernel
theorem dX1_takesFigure_8 : decode cX1_takesFigure 8 = .ok (.isub, 1) := by decide +kernel
theorem dX1_takesFigure_9 : decode cX1_takesFigure 9 = .ok (.iastore, 1) := by decide +kernel
theorem dX1_takesFigure_10 : decode cX1_takesFigure 10 = .ok (.iload_n 2, 1) := by decide +kernel
theorem dX1_takesFigure_11 : decode cX1_takesFigure 11 = .ok (.bipush 48, 2) := by decide +kernel
theorem dX1_takesFigure_13 : decode cX1_takesFigure 13 = .ok (.if_icmp .lt 13, 3) := by decide +kernel
theorem dX1_takesFigure_16 : decode cX1_takesFigure 16 = .ok (.iload_n 2, 1) := by decide +kernel
theorem dX1_takesFigure_17 : decode cX1_takesFigure 17 = .ok (.bipush 57, 2) := by decide +kernel
theorem dX1_takesFigure_19 : decode cX1_takesFigure 19 = .ok (.if_icmp .gt 7, 3) := by decide +kernel
theorem dX1_takesFigure_22 : decode cX1_takesFigure 22 = .ok (.iconst 1, 1) := by decide +kernel
theorem dX1_takesFigure_23 : decode cX1_takesFigure 23 = .ok (.goto 4, 3) := by decide +kernel
theorem dX1_takesFigure_26 : decode cX1_takesFigure 26 = .ok (.iconst 0, 1) := by decide +kernel
theorem dX1_takesFigure_27 : decode cX1_takesFigure 27 = .ok (.ireturn, 1) := by decide +kernel
theorem dX2_init_0 : decode cX2_init 0 = .ok (.aload_n 0, 1) := by decide +kernel
theorem dX2_init_1 : decode cX2_init 1 = .ok (.invokespecial 3, 3) := by decide +kernel
theorem dX2_init_4 : decode cX2_init 4 = .ok (.aload_n 0, 1) := by decide +kernel
theorem dX2_init_5 : decode cX2_init 5 = .ok (.iconst 2, 1) := by decide +kernel
theorem dX2_init_6 : decode cX2_init 6 = .ok (.putfield 9, 3) := by decide +kernel
theorem dX2_init_9 : decode cX2_init 9 = .ok (.aload_n 0, 1) := by decide +kernel
theorem dX2_init_10 : decode cX2_init 10 = .ok (.iconst 3, 1) := by decide +kernel
theorem dX2_init_11 : decode cX2_init 11 = .ok (.putfield 15, 3) := by decide +kernel
theorem dX2_init_14 : decode cX2_init 14 = .ok (.aload_n 0, 1) := by decide +kernel
theorem dX2_init_15 : decode cX2_init 15 = .ok (.aload_n 1, 1) := by decide +kernel
theorem dX2_init_16 : decode cX2_init 16 = .ok (.putfield 18, 3) := by decide +kernel
theorem dX2_init_19 : decode cX2_init 19 = .ok (.aload_n 0, 1) := by decide +kernel
theorem dX2_init_20 : decode cX2_init 20 = .ok (.aload_n 2, 1) := by decide +kernel
theorem dX2_init_21 : decode cX2_init 21 = .ok (.putfield 22, 3) := by decide +kernel
theorem dX2_init_24 : decode cX2_init 24 = .ok (.return_, 1) := by decide +kernel
theorem dX2_isFitting_0 : decode cX2_isFitting 0 = .ok (.aload_n 0, 1) := by decide +kernel
theorem dX2_isFitting_1 : decode cX2_isFitting 1 = .ok (.getfield 22, 3) := by decide +kernel
theorem dX2_isFitting_4 : decode cX2_isFitting 4 = .ok (.getfield 25, 3) := by decide +kernel
theorem dX2_isFitting_7 : decode cX2_isFitting 7 = .ok (.iload_n 1, 1) := by decide +kernel
theorem dX2_isFitting_8 : decode cX2_isFitting 8 = .ok (.iaload, 1) := by decide +kernel
theorem dX2_isFitting_9 : decode cX2_isFitting 9 = .ok (.aload_n 0, 1) := by decide +kernel
theorem dX2_isFitting_10 : decode cX2_isFitting 10 = .ok (.getfield 18, 3) := by decide +kernel
theorem dX2_isFitting_13 : decode cX2_isFitting 13 = .ok (.getfield 25, 3) := by decide +kernel
theorem dX2_isFitting_16 : decode cX2_isFitting 16 = .ok (.iload_n 2, 1) := by decide +kernel
theorem dX2_isFitting_17 : decode cX2_isFitting 17 = .ok (.iaload, 1) := by decide +kernel
theorem dX2_isFitting_18 : decode cX2_isFitting 18 = .ok (.ixor, 1) := by decide +kernel
theorem dX2_isFitting_19 : decode cX2_isFitting 19 = .ok (.istore_n 3, 1) := by decide +kernel
theorem dX2_isFitting_20 : decode cX2_isFitting 20 = .ok (.iload_n 3, 1) := by decide +kernel
theorem dX2_isFitting_21 : decode cX2_isFitting 21 = .ok (.aload_n 0, 1) := by decide +kernel
theorem dX2_isFitting_22 : decode cX2_isFitting 22 = .ok (.getfield 22, 3) := by decide +kernel
theorem dX2_isFitting_25 : decode cX2_isFitting 25 = .ok (.getfield 31, 3) := by decide +kernel
theorem dX2_isFitting_28 : decode cX2_isFitting 28 = .ok (.iload_n 1, 1) := by decide +kernel
theorem dX2_isFitting_29 : decode cX2_isFitting 29 = .ok (.iaload, 1) := by decide +kernel
theorem dX2_isFitting_30 : decode cX2_isFitting 30 = .ok (.iand, 1) := by decide +kernel
theorem dX2_isFitting_31 : decode cX2_isFitting 31 = .ok (.ifCond .ne 7, 3) := by decide +kernel
theorem dX2_isFitting_34 : decode cX2_isFitting 34 = .ok (.iconst 1, 1) := by decide +kernel
theorem dX2_isFitting_35 : decode cX2_isFitting 35 = .ok (.goto 4, 3) := by decide +kernel
theorem dX2_isFitting_38 : decode cX2_isFitting 38 = .ok (.iconst 0, 1) := by decide +kernel
theorem dX2_isFitting_39 : decode cX2_isFitting 39 = .ok (.ireturn, 1) := by decide +kernel
theorem dX2_virtuesFittedBy_0 : decode cX2_virtuesFittedBy 0 = .ok (.iconst 0, 1) := by decide +kernel
theorem dX2_virtuesFittedBy_1 : decode cX2_virtuesFittedBy 1 = .ok (.istore_n 2, 1) := by decide +kernel
theorem dX2_virtuesFittedBy_2 : decode cX2_virtuesFittedBy 2 = .ok (.iconst 0, 1) := by decide +kernel
theorem dX2_virtuesFittedBy_3 : decode cX2_virtuesFittedBy 3 = .ok (.istore_n 3, 1) := by decide +kernel
theorem dX2_virtuesFittedBy_4 : decode cX2_virtuesFittedBy 4 = .ok (.iload_n 3, 1) := by decide +kernel
theorem dX2_virtuesFittedBy_5 : decode cX2_virtuesFittedBy 5 = .ok (.aload_n 0, 1) := by decide +kernel
theorem dX2_virtuesFittedBy_6 : decode cX2_virtuesFittedBy 6 = .ok (.getfield 18, 3) := by decide +kernel
theorem dX2_virtuesFittedBy_9 : decode cX2_virtuesFittedBy 9 = .ok (.getfield 34, 3) := by decide +kernel
theorem dX2_virtuesFittedBy_12 : decode cX2_virtuesFittedBy 12 = .ok (.if_icmp .ge 24, 3) := by decide +kernel
theorem dX2_virtuesFittedBy_15 : decode cX2_virtuesFittedBy 15 = .ok (.aload_n 0, 1) := by decide +kernel
theorem dX2_virtuesFittedBy_16 : decode cX2_virtuesFittedBy 16 = .ok (.iload_n 1, 1) := by decide +kernel
theorem dX2_virtuesFittedBy_17 : decode cX2_virtuesFittedBy 17 = .ok (.iload_n 3, 1) := by decide +kernel
theorem dX2_virtuesFittedBy_18 : decode cX2_virtuesFittedBy 18 = .ok (.invokevirtual 37, 3) := by decide +kernel
theorem dX2_virtuesFittedBy_21 : decode cX2_virtuesFittedBy 21 = .ok (.ifCond .eq 9, 3) := by decide +kernel
theorem dX2_virtuesFittedBy_24 : decode cX2_virtuesFittedBy 24 = .ok (.iload_n 2, 1) := by decide +kernel
theorem dX2_virtuesFittedBy_25 : decode cX2_virtuesFittedBy 25 = .ok (.iconst 1, 1) := by decide +kernel
theorem dX2_virtuesFittedBy_26 : decode cX2_virtuesFittedBy 26 = .ok (.iload_n 3, 1) := by decide +kernel
theorem dX2_virtuesFittedBy_27 : decode cX2_virtuesFittedBy 27 = .ok (.ishl, 1) := by decide +kernel
theorem dX2_virtuesFittedBy_28 : decode cX2_virtuesFittedBy 28 = .ok (.ior, 1) := by decide +kernel
theorem dX2_virtuesFittedBy_29 : decode cX2_virtuesFittedBy 29 = .ok (.istore_n 2, 1) := by decide +kernel
theorem dX2_virtuesFittedBy_30 : decode cX2_virtuesFittedBy 30 = .ok (.iinc 3 1, 3) := by decide +kernel
theorem dX2_virtuesFittedBy_33 : decode cX2_virtuesFittedBy 33 = .ok (.goto (-29), 3) := by decide +kernel
theorem dX2_virtuesFittedBy_36 : decode cX2_virtuesFittedBy 36 = .ok (.iload_n 2, 1) := by decide +kernel
theorem dX2_virtuesFittedBy_37 : decode cX2_virtuesFittedBy 37 = .ok (.ireturn, 1) := by decide +kernel
theorem dX2_claimantsFitting_0 : decode cX2_claimantsFitting 0 = .ok (.iconst 0, 1) := by decide +kernel
theorem dX2_claimantsFitting_1 : decode cX2_claimantsFitting 1 = .ok (.istore_n 2, 1) := by decide +kernel
theorem dX2_claimantsFitting_2 : decode cX2_claimantsFitting 2 = .ok (.iconst 0, 1) := by decide +kernel
theorem dX2_claimantsFitting_3 : decode cX2_claimantsFitting 3 = .ok (.istore_n 3, 1) := by decide +kernel
theorem dX2_claimantsFitting_4 : decode cX2_claimantsFitting 4 = .ok (.iload_n 3, 1) := by decide +kernel
theorem dX2_claimantsFitting_5 : decode cX2_claimantsFitting 5 = .ok (.aload_n 0, 1) := by decide +kernel
theorem dX2_claimantsFitting_6 : decode cX2_claimantsFitting 6 = .ok (.getfield 22, 3) := by decide +kernel
theorem dX2_claimantsFitting_9 : decode cX2_claimantsFitting 9 = .ok (.getfield 34, 3) := by decide +kernel
theorem dX2_claimantsFitting_12 : decode cX2_claimantsFitting 12 = .ok (.if_icmp .ge 24, 3) := by decide +kernel
theorem dX2_claimantsFitting_15 : decode cX2_claimantsFitting 15 = .ok (.aload_n 0, 1) := by decide +kernel
theorem dX2_claimantsFitting_16 : decode cX2_claimantsFitting 16 = .ok (.iload_n 3, 1) := by decide +kernel
theorem dX2_claimantsFitting_17 : decode cX2_claimantsFitting 17 = .ok (.iload_n 1, 1) := by decide +kernel
theorem dX2_claimantsFitting_18 : decode cX2_claimantsFitting 18 = .ok (.invokevirtual 37, 3) := by decide +kernel
theorem dX2_claimantsFitting_21 : decode cX2_claimantsFitting 21 = .ok (.ifCond .eq 9, 3) := by decide +kernel
theorem dX2_claimantsFitting_24 : decode cX2_claimantsFitting 24 = .ok (.iload_n 2, 1) := by decide +kernel
theorem dX2_claimantsFitting_25 : decode cX2_claimantsFitting 25 = .ok (.iconst 1, 1) := by decide +kernel
theorem dX2_claimantsFitting_26 : decode cX2_claimantsFitting 26 = .ok (.iload_n 3, 1) := by decide +kernel
theorem dX2_claimantsFitting_27 : decode cX2_claimantsFitting 27 = .ok (.ishl, 1) := by decide +kernel
theorem dX2_claimantsFitting_28 : decode cX2_claimantsFitting 28 = .ok (.ior, 1) := by decide +kernel
theorem dX2_claimantsFitting_29 : decode cX2_claimantsFitting 29 = .ok (.istore_n 2, 1) := by decide +kernel
theorem dX2_claimantsFitting_30 : decode cX2_claimantsFitting 30 = .ok (.iinc 3 1, 3) := by decide +kernel
theorem dX2_claimantsFitting_33 : decode cX2_claimantsFitting 33 = .ok (.goto (-29), 3) := by decide +kernel
theorem dX2_claimantsFitting_36 : decode cX2_claimantsFitting 36 = .ok (.iload_n 2, 1) := by decide +kernel
theorem dX2_claimantsFitting_37 : decode cX2_claimantsFitting 37 = .ok (.ireturn, 1) := by decide +kernel
theorem dX2_wantedBy_0 : decode cX2_wantedBy 0 = .ok (.aload_n 0, 1) := by decide +kernel
theorem dX2_wantedBy_1 : decode cX2_wantedBy 1 = .ok (.iload_n 1, 1) := by decide +kernel
theorem dX2_wantedBy_2 : decode cX2_wantedBy 2 = .ok (.invokevirtual 41, 3) := by decide +kernel
theorem dX2_wantedBy_5 : decode cX2_wantedBy 5 = .ok (.invokestatic 45, 3) := by decide +kernel
theorem dX2_wantedBy_8 : decode cX2_wantedBy 8 = .ok (.ireturn, 1) := by decide +kernel
theorem dX2_saysEnough_0 : decode cX2_saysEnough 0 = .ok (.aload_n 0, 1) := by decide +kernel
theorem dX2_saysEnough_1 : decode cX2_saysEnough 1 = .ok (.getfield 22, 3) := by decide +kernel
theorem dX2_saysEnough_4 : decode cX2_saysEnough 4 = .ok (.getfield 31, 3) := by decide +kernel
theorem dX2_saysEnough_7 : decode cX2_saysEnough 7 = .ok (.iload_n 1, 1) := by decide +kernel
theorem dX2_saysEnough_8 : decode cX2_saysEnough 8 = .ok (.iaload, 1) := by decide +kernel
theorem dX2_saysEnough_9 : decode cX2_saysEnough 9 = .ok (.invokestatic 45, 3) := by decide +kernel
theorem dX2_saysEnough_12 : decode cX2_saysEnough 12 = .ok (.aload_n 0, 1) := by decide +kernel
theorem dX2_saysEnough_13 : decode cX2_saysEnough 13 = .ok (.getfield 9, 3) := by decide +kernel
theorem dX2_saysEnough_16 : decode cX2_saysEnough 16 = .ok (.if_icmp .lt 7, 3) := by decide +kernel
theorem dX2_saysEnough_19 : decode cX2_saysEnough 19 = .ok (.iconst 1, 1) := by decide +kernel
theorem dX2_saysEnough_20 : decode cX2_saysEnough 20 = .ok (.goto 4, 3) := by decide +kernel
theorem dX2_saysEnough_23 : decode cX2_saysEnough 23 = .ok (.iconst 0, 1) := by decide +kernel
theorem dX2_saysEnough_24 : decode cX2_saysEnough 24 = .ok (.ireturn, 1) := by decide +kernel
theorem dX2_worthOfAll_0 : decode cX2_worthOfAll 0 = .ok (.iconst 0, 1) := by decide +kernel
theorem dX2_worthOfAll_1 : decode cX2_worthOfAll 1 = .ok (.istore_n 1, 1) := by decide +kernel
theorem dX2_worthOfAll_2 : decode cX2_worthOfAll 2 = .ok (.iconst 0, 1) := by decide +kernel
theorem dX2_worthOfAll_3 : decode cX2_worthOfAll 3 = .ok (.istore_n 2, 1) := by decide +kernel
theorem dX2_worthOfAll_4 : decode cX2_worthOfAll 4 = .ok (.iload_n 2, 1) := by decide +kernel
theorem dX2_worthOfAll_5 : decode cX2_worthOfAll 5 = .ok (.aload_n 0, 1) := by decide +kernel
theorem dX2_worthOfAll_6 : decode cX2_worthOfAll 6 = .ok (.getfield 18, 3) := by decide +kernel
theorem dX2_worthOfAll_9 : decode cX2_worthOfAll 9 = .ok (.getfield 34, 3) := by decide +kernel
theorem dX2_worthOfAll_12 : decode cX2_worthOfAll 12 = .ok (.if_icmp .ge 21, 3) := by decide +kernel
theorem dX2_worthOfAll_15 : decode cX2_worthOfAll 15 = .ok (.iload_n 1, 1) := by decide +kernel
theorem dX2_worthOfAll_16 : decode cX2_worthOfAll 16 = .ok (.aload_n 0, 1) := by decide +kernel
theorem dX2_worthOfAll_17 : decode cX2_worthOfAll 17 = .ok (.getfield 18, 3) := by decide +kernel
theorem dX2_worthOfAll_20 : decode cX2_worthOfAll 20 = .ok (.getfield 50, 3) := by decide +kernel
theorem dX2_worthOfAll_23 : decode cX2_worthOfAll 23 = .ok (.iload_n 2, 1) := by decide +kernel
theorem dX2_worthOfAll_24 : decode cX2_worthOfAll 24 = .ok (.iaload, 1) := by decide +kernel
theorem dX2_worthOfAll_25 : decode cX2_worthOfAll 25 = .ok (.iadd, 1) := by decide +kernel
theorem dX2_worthOfAll_26 : decode cX2_worthOfAll 26 = .ok (.istore_n 1, 1) := by decide +kernel
theorem dX2_worthOfAll_27 : decode cX2_worthOfAll 27 = .ok (.iinc 2 1, 3) := by decide +kernel
theorem dX2_worthOfAll_30 : decode cX2_worthOfAll 30 = .ok (.goto (-26), 3) := by decide +kernel
theorem dX2_worthOfAll_33 : decode cX2_worthOfAll 33 = .ok (.iload_n 1, 1) := by decide +kernel
theorem dX2_worthOfAll_34 : decode cX2_worthOfAll 34 = .ok (.ireturn, 1) := by decide +kernel
theorem dX2_leastWorthOf_0 : decode cX2_leastWorthOf 0 = .ok (.iconst (-1), 1) := by decide +kernel
theorem dX2_leastWorthOf_1 : decode cX2_leastWorthOf 1 = .ok (.istore_n 2, 1) := by decide +kernel
theorem dX2_leastWorthOf_2 : decode cX2_leastWorthOf 2 = .ok (.iconst 0, 1) := by decide +kernel
theorem dX2_leastWorthOf_3 : decode cX2_leastWorthOf 3 = .ok (.istore_n 3, 1) := by decide +kernel
theorem dX2_leastWorthOf_4 : decode cX2_leastWorthOf 4 = .ok (.iload_n 3, 1) := by decide +kernel
theorem dX2_leastWorthOf_5 : decode cX2_leastWorthOf 5 = .ok (.aload_n 0, 1) := by decide +kernel
theorem dX2_leastWorthOf_6 : decode cX2_leastWorthOf 6 = .ok (.getfield 18, 3) := by decide +kernel
theorem dX2_leastWorthOf_9 : decode cX2_leastWorthOf 9 = .ok (.getfield 34, 3) := by decide +kernel
theorem dX2_leastWorthOf_12 : decode cX2_leastWorthOf 12 = .ok (.if_icmp .ge 58, 3) := by decide +kernel
theorem dX2_leastWorthOf_15 : decode cX2_leastWorthOf 15 = .ok (.iload_n 1, 1) := by decide +kernel
theorem dX2_leastWorthOf_16 : decode cX2_leastWorthOf 16 = .ok (.iload_n 3, 1) := by decide +kernel
theorem dX2_leastWorthOf_17 : decode cX2_leastWorthOf 17 = .ok (.ishr, 1) := by decide +kernel
theorem dX2_leastWorthOf_18 : decode cX2_leastWorthOf 18 = .ok (.iconst 1, 1) := by decide +kernel
theorem dX2_leastWorthOf_19 : decode cX2_leastWorthOf 19 = .ok (.iand, 1) := by decide +kernel
theorem dX2_leastWorthOf_20 : decode cX2_leastWorthOf 20 = .ok (.iconst 1, 1) := by decide +kernel
theorem dX2_leastWorthOf_21 : decode cX2_leastWorthOf 21 = .ok (.if_icmp .ne 7, 3) := by decide +kernel
theorem dX2_leastWorthOf_24 : decode cX2_leastWorthOf 24 = .ok (.iconst 1, 1) := by decide +kernel
theorem dX2_leastWorthOf_25 : decode cX2_leastWorthOf 25 = .ok (.goto 4, 3) := by decide +kernel
theorem dX2_leastWorthOf_28 : decode cX2_leastWorthOf 28 = .ok (.iconst 0, 1) := by decide +kernel
theorem dX2_leastWorthOf_29 : decode cX2_leastWorthOf 29 = .ok (.istore 4, 2) := by decide +kernel
theorem dX2_leastWorthOf_31 : decode cX2_leastWorthOf 31 = .ok (.iload 4, 2) := by decide +kernel
theorem dX2_leastWorthOf_33 : decode cX2_leastWorthOf 33 = .ok (.ifCond .eq 31, 3) := by decide +kernel
theorem dX2_leastWorthOf_36 : decode cX2_leastWorthOf 36 = .ok (.iload_n 2, 1) := by decide +kernel
theorem dX2_leastWorthOf_37 : decode cX2_leastWorthOf 37 = .ok (.iconst (-1), 1) := by decide +kernel
theorem dX2_leastWorthOf_38 : decode cX2_leastWorthOf 38 = .ok (.if_icmp .eq 24, 3) := by decide +kernel
theorem dX2_leastWorthOf_41 : decode cX2_leastWorthOf 41 = .ok (.aload_n 0, 1) := by decide +kernel
theorem dX2_leastWorthOf_42 : decode cX2_leastWorthOf 42 = .ok (.getfield 18, 3) := by decide +kernel
theorem dX2_leastWorthOf_45 : decode cX2_leastWorthOf 45 = .ok (.getfield 50, 3) := by decide +kernel
theorem dX2_leastWorthOf_48 : decode cX2_leastWorthOf 48 = .ok (.iload_n 3, 1) := by decide +kernel
theorem dX2_leastWorthOf_49 : decode cX2_leastWorthOf 49 = .ok (.iaload, 1) := by decide +kernel
theorem dX2_leastWorthOf_50 : decode cX2_leastWorthOf 50 = .ok (.aload_n 0, 1) := by decide +kernel
theorem dX2_leastWorthOf_51 : decode cX2_leastWorthOf 51 = .ok (.getfield 18, 3) := by decide +kernel
theorem dX2_leastWorthOf_54 : decode cX2_leastWorthOf 54 = .ok (.getfield 50, 3) := by decide +kernel
theorem dX2_leastWorthOf_57 : decode cX2_leastWorthOf 57 = .ok (.iload_n 2, 1) := by decide +kernel
theorem dX2_leastWorthOf_58 : decode cX2_leastWorthOf 58 = .ok (.iaload, 1) := by decide +kernel
theorem dX2_leastWorthOf_59 : decode cX2_leastWorthOf 59 = .ok (.if_icmp .ge 5, 3) := by decide +kernel
theorem dX2_leastWorthOf_62 : decode cX2_leastWorthOf 62 = .ok (.iload_n 3, 1) := by decide +kernel
theorem dX2_leastWorthOf_63 : decode cX2_leastWorthOf 63 = .ok (.istore_n 2, 1) := by decide +kernel
theorem dX2_leastWorthOf_64 : decode cX2_leastWorthOf 64 = .ok (.iinc 3 1, 3) := by decide +kernel
theorem dX2_leastWorthOf_67 : decode cX2_leastWorthOf 67 = .ok (.goto (-63), 3) := by decide +kernel
theorem dX2_leastWorthOf_70 : decode cX2_leastWorthOf 70 = .ok (.iload_n 2, 1) := by decide +kernel
theorem dX2_leastWorthOf_71 : decode cX2_leastWorthOf 71 = .ok (.ireturn, 1) := by decide +kernel
theorem dX2_highOf_0 : decode cX2_highOf 0 = .ok (.iconst 0, 1) := by decide +kernel
theorem dX2_highOf_1 : decode cX2_highOf 1 = .ok (.istore_n 3, 1) := by decide +kernel
theorem dX2_highOf_2 : decode cX2_highOf 2 = .ok (.iconst 0, 1) := by decide +kernel
theorem dX2_highOf_3 : decode cX2_highOf 3 = .ok (.istore 4, 2) := by decide +kernel
theorem dX2_highOf_5 : decode cX2_highOf 5 = .ok (.iload 4, 2) := by decide +kernel
theorem dX2_highOf_7 : decode cX2_highOf 7 = .ok (.aload_n 0, 1) := by decide +kernel
theorem dX2_highOf_8 : decode cX2_highOf 8 = .ok (.getfield 18, 3) := by decide +kernel
theorem dX2_highOf_11 : decode cX2_highOf 11 = .ok (.getfield 34, 3) := by decide +kernel
theorem dX2_highOf_14 : decode cX2_highOf 14 = .ok (.if_icmp .ge 31, 3) := by decide +kernel
theorem dX2_highOf_17 : decode cX2_highOf 17 = .ok (.iload_n 3, 1) := by decide +kernel
theorem dX2_highOf_18 : decode cX2_highOf 18 = .ok (.iload_n 1, 1) := by decide +kernel
theorem dX2_highOf_19 : decode cX2_highOf 19 = .ok (.iload 4, 2) := by decide +kernel
theorem dX2_highOf_21 : decode cX2_highOf 21 = .ok (.ishr, 1) := by decide +kernel
theorem dX2_highOf_22 : decode cX2_highOf 22 = .ok (.aload_n 0, 1) := by decide +kernel
theorem dX2_highOf_23 : decode cX2_highOf 23 = .ok (.getfield 18, 3) := by decide +kernel
theorem dX2_highOf_26 : decode cX2_highOf 26 = .ok (.getfield 25, 3) := by decide +kernel
theorem dX2_highOf_29 : decode cX2_highOf 29 = .ok (.iload 4, 2) := by decide +kernel
theorem dX2_highOf_31 : decode cX2_highOf 31 = .ok (.iaload, 1) := by decide +kernel
theorem dX2_highOf_32 : decode cX2_highOf 32 = .ok (.iload_n 2, 1) := by decide +kernel
theorem dX2_highOf_33 : decode cX2_highOf 33 = .ok (.ishr, 1) := by decide +kernel
theorem dX2_highOf_34 : decode cX2_highOf 34 = .ok (.iand, 1) := by decide +kernel
theorem dX2_highOf_35 : decode cX2_highOf 35 = .ok (.iconst 1, 1) := by decide +kernel
theorem dX2_highOf_36 : decode cX2_highOf 36 = .ok (.iand, 1) := by decide +kernel
theorem dX2_highOf_37 : decode cX2_highOf 37 = .ok (.iadd, 1) := by decide +kernel
theorem dX2_highOf_38 : decode cX2_highOf 38 = .ok (.istore_n 3, 1) := by decide +kernel
theorem dX2_highOf_39 : decode cX2_highOf 39 = .ok (.iinc 4 1, 3) := by decide +kernel
theorem dX2_highOf_42 : decode cX2_highOf 42 = .ok (.goto (-37), 3) := by decide +kernel
theorem dX2_highOf_45 : decode cX2_highOf 45 = .ok (.iload_n 3, 1) := by decide +kernel
theorem dX2_highOf_46 : decode cX2_highOf 46 = .ok (.ireturn, 1) := by decide +kernel
theorem dX2_alikeIn_0 : decode cX2_alikeIn 0 = .ok (.iconst 0, 1) := by decide +kernel
theorem dX2_alikeIn_1 : decode cX2_alikeIn 1 = .ok (.istore_n 3, 1) := by decide +kernel
theorem dX2_alikeIn_2 : decode cX2_alikeIn 2 = .ok (.iconst 0, 1) := by decide +kernel
theorem dX2_alikeIn_3 : decode cX2_alikeIn 3 = .ok (.istore 4, 2) := by decide +kernel
theorem dX2_alikeIn_5 : decode cX2_alikeIn 5 = .ok (.iload 4, 2) := by decide +kernel
theorem dX2_alikeIn_7 : decode cX2_alikeIn 7 = .ok (.aload_n 0, 1) := by decide +kernel
theorem dX2_alikeIn_8 : decode cX2_alikeIn 8 = .ok (.getfield 18, 3) := by decide +kernel
theorem dX2_alikeIn_11 : decode cX2_alikeIn 11 = .ok (.getfield 34, 3) := by decide +kernel
theorem dX2_alikeIn_14 : decode cX2_alikeIn 14 = .ok (.if_icmp .ge 41, 3) := by decide +kernel
theorem dX2_alikeIn_17 : decode cX2_alikeIn 17 = .ok (.aload_n 0, 1) := by decide +kernel
theorem dX2_alikeIn_18 : decode cX2_alikeIn 18 = .ok (.getfield 18, 3) := by decide +kernel
theorem dX2_alikeIn_21 : decode cX2_alikeIn 21 = .ok (.getfield 25, 3) := by decide +kernel
theorem dX2_alikeIn_24 : decode cX2_alikeIn 24 = .ok (.iload 4, 2) := by decide +kernel
theorem dX2_alikeIn_26 : decode cX2_alikeIn 26 = .ok (.iaload, 1) := by decide +kernel
theorem dX2_alikeIn_27 : decode cX2_alikeIn 27 = .ok (.aload_n 0, 1) := by decide +kernel
theorem dX2_alikeIn_28 : decode cX2_alikeIn 28 = .ok (.getfield 18, 3) := by decide +kernel
theorem dX2_alikeIn_31 : decode cX2_alikeIn 31 = .ok (.getfield 25, 3) := by decide +kernel
theorem dX2_alikeIn_34 : decode cX2_alikeIn 34 = .ok (.iload_n 1, 1) := by decide +kernel
theorem dX2_alikeIn_35 : decode cX2_alikeIn 35 = .ok (.iaload, 1) := by decide +kernel
theorem dX2_alikeIn_36 : decode cX2_alikeIn 36 = .ok (.ixor, 1) := by decide +kernel
theorem dX2_alikeIn_37 : decode cX2_alikeIn 37 = .ok (.iload_n 2, 1) := by decide +kernel
theorem dX2_alikeIn_38 : decode cX2_alikeIn 38 = .ok (.iand, 1) := by decide +kernel
theorem dX2_alikeIn_39 : decode cX2_alikeIn 39 = .ok (.ifCond .ne 10, 3) := by decide +kernel
theorem dX2_alikeIn_42 : decode cX2_alikeIn 42 = .ok (.iload_n 3, 1) := by decide +kernel
theorem dX2_alikeIn_43 : decode cX2_alikeIn 43 = .ok (.iconst 1, 1) := by decide +kernel
theorem dX2_alikeIn_44 : decode cX2_alikeIn 44 = .ok (.iload 4, 2) := by decide +kernel
theorem dX2_alikeIn_46 : decode cX2_alikeIn 46 = .ok (.ishl, 1) := by decide +kernel
theorem dX2_alikeIn_47 : decode cX2_alikeIn 47 = .ok (.ior, 1) := by decide +kernel
theorem dX2_alikeIn_48 : decode cX2_alikeIn 48 = .ok (.istore_n 3, 1) := by decide +kernel
theorem dX2_alikeIn_49 : decode cX2_alikeIn 49 = .ok (.iinc 4 1, 3) := by decide +kernel
theorem dX2_alikeIn_52 : decode cX2_alikeIn 52 = .ok (.goto (-47), 3) := by decide +kernel
theorem dX2_alikeIn_55 : decode cX2_alikeIn 55 = .ok (.iload_n 3, 1) := by decide +kernel
theorem dX2_alikeIn_56 : decode cX2_alikeIn 56 = .ok (.ireturn, 1) := by decide +kernel
theorem dX2_alikeInOpen_0 : decode cX2_alikeInOpen 0 = .ok (.aload_n 0, 1) := by decide +kernel
theorem dX2_alikeInOpen_1 : decode cX2_alikeInOpen 1 = .ok (.iload_n 1, 1) := by decide +kernel
theorem dX2_alikeInOpen_2 : decode cX2_alikeInOpen 2 = .ok (.bipush 15, 2) := by decide +kernel
theorem dX2_alikeInOpen_4 : decode cX2_alikeInOpen 4 = .ok (.iload_n 2, 1) := by decide +kernel
theorem dX2_alikeInOpen_5 : decode cX2_alikeInOpen 5 = .ok (.iconst (-1), 1) := by decide +kernel
theorem dX2_alikeInOpen_6 : decode cX2_alikeInOpen 6 = .ok (.ixor, 1) := by decide +kernel
theorem dX2_alikeInOpen_7 : decode cX2_alikeInOpen 7 = .ok (.iand, 1) := by decide +kernel
theorem dX2_alikeInOpen_8 : decode cX2_alikeInOpen 8 = .ok (.invokevirtual 53, 3) := by decide +kernel
theorem dX2_alikeInOpen_11 : decode cX2_alikeInOpen 11 = .ok (.ireturn, 1) := by decide +kernel
theorem dX2_onlyOneSuch_0 : decode cX2_onlyOneSuch 0 = .ok (.aload_n 0, 1) := by decide +kernel
theorem dX2_onlyOneSuch_1 : decode cX2_onlyOneSuch 1 = .ok (.iload_n 1, 1) := by decide +kernel
theorem dX2_onlyOneSuch_2 : decode cX2_onlyOneSuch 2 = .ok (.iload_n 2, 1) := by decide +kernel
theorem dX2_onlyOneSuch_3 : decode cX2_onlyOneSuch 3 = .ok (.invokevirtual 53, 3) := by decide +kernel
theorem dX2_onlyOneSuch_6 : decode cX2_onlyOneSuch 6 = .ok (.iconst 1, 1) := by decide +kernel
theorem dX2_onlyOneSuch_7 : decode cX2_onlyOneSuch 7 = .ok (.iload_n 1, 1) := by decide +kernel
theorem dX2_onlyOneSuch_8 : decode cX2_onlyOneSuch 8 = .ok (.ishl, 1) := by decide +kernel
theorem dX2_onlyOneSuch_9 : decode cX2_onlyOneSuch 9 = .ok (.if_icmp .ne 7, 3) := by decide +kernel
theorem dX2_onlyOneSuch_12 : decode cX2_onlyOneSuch 12 = .ok (.iconst 1, 1) := by decide +kernel
theorem dX2_onlyOneSuch_13 : decode cX2_onlyOneSuch 13 = .ok (.goto 4, 3) := by decide +kernel
theorem dX2_onlyOneSuch_16 : decode cX2_onlyOneSuch 16 = .ok (.iconst 0, 1) := by decide +kernel
theorem dX2_onlyOneSuch_17 : decode cX2_onlyOneSuch 17 = .ok (.ireturn, 1) := by decide +kernel
theorem dX2_mostOfOneKind_0 : decode cX2_mostOfOneKind 0 = .ok (.iconst 0, 1) := by decide +kernel
theorem dX2_mostOfOneKind_1 : decode cX2_mostOfOneKind 1 = .ok (.istore_n 2, 1) := by decide +kernel
theorem dX2_mostOfOneKind_2 : decode cX2_mostOfOneKind 2 = .ok (.iconst 0, 1) := by decide +kernel
theorem dX2_mostOfOneKind_3 : decode cX2_mostOfOneKind 3 = .ok (.istore_n 3, 1) := by decide +kernel
theorem dX2_mostOfOneKind_4 : decode cX2_mostOfOneKind 4 = .ok (.iload_n 3, 1) := by decide +kernel
theorem dX2_mostOfOneKind_5 : decode cX2_mostOfOneKind 5 = .ok (.aload_n 0, 1) := by decide +kernel
theorem dX2_mostOfOneKind_6 : decode cX2_mostOfOneKind 6 = .ok (.getfield 18, 3) := by decide +kernel
theorem dX2_mostOfOneKind_9 : decode cX2_mostOfOneKind 9 = .ok (.getfield 34, 3) := by decide +kernel
theorem dX2_mostOfOneKind_12 : decode cX2_mostOfOneKind 12 = .ok (.if_icmp .ge 39, 3) := by decide +kernel
theorem dX2_mostOfOneKind_15 : decode cX2_mostOfOneKind 15 = .ok (.iload_n 1, 1) := by decide +kernel
theorem dX2_mostOfOneKind_16 : decode cX2_mostOfOneKind 16 = .ok (.iload_n 3, 1) := by decide +kernel
theorem dX2_mostOfOneKind_17 : decode cX2_mostOfOneKind 17 = .ok (.ishr, 1) := by decide +kernel
theorem dX2_mostOfOneKind_18 : decode cX2_mostOfOneKind 18 = .ok (.iconst 1, 1) := by decide +kernel
theorem dX2_mostOfOneKind_19 : decode cX2_mostOfOneKind 19 = .ok (.iand, 1) := by decide +kernel
theorem dX2_mostOfOneKind_20 : decode cX2_mostOfOneKind 20 = .ok (.iconst 1, 1) := by decide +kernel
theorem dX2_mostOfOneKind_21 : decode cX2_mostOfOneKind 21 = .ok (.if_icmp .ne 24, 3) := by decide +kernel
theorem dX2_mostOfOneKind_24 : decode cX2_mostOfOneKind 24 = .ok (.aload_n 0, 1) := by decide +kernel
theorem dX2_mostOfOneKind_25 : decode cX2_mostOfOneKind 25 = .ok (.iload_n 3, 1) := by decide +kernel
theorem dX2_mostOfOneKind_26 : decode cX2_mostOfOneKind 26 = .ok (.bipush 15, 2) := by decide +kernel
theorem dX2_mostOfOneKind_28 : decode cX2_mostOfOneKind 28 = .ok (.invokevirtual 53, 3) := by decide +kernel
theorem dX2_mostOfOneKind_31 : decode cX2_mostOfOneKind 31 = .ok (.iload_n 1, 1) := by decide +kernel
theorem dX2_mostOfOneKind_32 : decode cX2_mostOfOneKind 32 = .ok (.iand, 1) := by decide +kernel
theorem dX2_mostOfOneKind_33 : decode cX2_mostOfOneKind 33 = .ok (.istore 4, 2) := by decide +kernel
theorem dX2_mostOfOneKind_35 : decode cX2_mostOfOneKind 35 = .ok (.iload_n 2, 1) := by decide +kernel
theorem dX2_mostOfOneKind_36 : decode cX2_mostOfOneKind 36 = .ok (.iload 4, 2) := by decide +kernel
theorem dX2_mostOfOneKind_38 : decode cX2_mostOfOneKind 38 = .ok (.invokestatic 45, 3) := by decide +kernel
theorem dX2_mostOfOneKind_41 : decode cX2_mostOfOneKind 41 = .ok (.invokestatic 57, 3) := by decide +kernel
theorem dX2_mostOfOneKind_44 : decode cX2_mostOfOneKind 44 = .ok (.istore_n 2, 1) := by decide +kernel
theorem dX2_mostOfOneKind_45 : decode cX2_mostOfOneKind 45 = .ok (.iinc 3 1, 3) := by decide +kernel
theorem dX2_mostOfOneKind_48 : decode cX2_mostOfOneKind 48 = .ok (.goto (-44), 3) := by decide +kernel
theorem dX2_mostOfOneKind_51 : decode cX2_mostOfOneKind 51 = .ok (.iload_n 2, 1) := by decide +kernel
theorem dX2_mostOfOneKind_52 : decode cX2_mostOfOneKind 52 = .ok (.ireturn, 1) := by decide +kernel
theorem dJ6_numberOfTrailingZeros_0f7a4_0 : decode cJ6_numberOfTrailingZeros_0f7a4 0 = .ok (.iload_n 0, 1) := by decide +kernel
theorem dJ6_numberOfTrailingZeros_0f7a4_1 : decode cJ6_numberOfTrailingZeros_0f7a4 1 = .ok (.iconst (-1), 1) := by decide +kernel
theorem dJ6_numberOfTrailingZeros_0f7a4_2 : decode cJ6_numberOfTrailingZeros_0f7a4 2 = .ok (.ixor, 1) := by decide +kernel
theorem dJ6_numberOfTrailingZeros_0f7a4_3 : decode cJ6_numberOfTrailingZeros_0f7a4 3 = .ok (.iload_n 0, 1) := by decide +kernel
theorem dJ6_numberOfTrailingZeros_0f7a4_4 : decode cJ6_numberOfTrailingZeros_0f7a4 4 = .ok (.iconst 1, 1) := by decide +kernel
theorem dJ6_numberOfTrailingZeros_0f7a4_5 : decode cJ6_numberOfTrailingZeros_0f7a4 5 = .ok (.isub, 1) := by decide +kernel
theorem dJ6_numberOfTrailingZeros_0f7a4_6 : decode cJ6_numberOfTrailingZeros_0f7a4 6 = .ok (.iand, 1) := by decide +kernel
theorem dJ6_numberOfTrailingZeros_0f7a4_7 : decode cJ6_numberOfTrailingZeros_0f7a4 7 = .ok (.istore_n 0, 1) := by decide +kernel
theorem dJ6_numberOfTrailingZeros_0f7a4_8 : decode cJ6_numberOfTrailingZeros_0f7a4 8 = .ok (.iload_n 0, 1) := by decide +kernel
theorem dJ6_numberOfTrailingZeros_0f7a4_9 : decode cJ6_numberOfTrailingZeros_0f7a4 9 = .ok (.ifCond .gt 8, 3) := by decide +kernel
theorem dJ6_numberOfTrailingZeros_0f7a4_12 : decode cJ6_numberOfTrailingZeros_0f7a4 12 = .ok (.iload_n 0, 1) := by decide +kernel
theorem dJ6_numberOfTrailingZeros_0f7a4_13 : decode cJ6_numberOfTrailingZeros_0f7a4 13 = .ok (.bipush 32, 2) := by decide +kernel
theorem dJ6_numberOfTrailingZeros_0f7a4_15 : decode cJ6_numberOfTrailingZeros_0f7a4 15 = .ok (.iand, 1) := by decide +kernel
theorem dJ6_numberOfTrailingZeros_0f7a4_16 : decode cJ6_numberOfTrailingZeros_0f7a4 16 = .ok (.ireturn, 1) := by decide +kernel
theorem dJ6_numberOfTrailingZeros_0f7a4_17 : decode cJ6_numberOfTrailingZeros_0f7a4 17 = .ok (.iconst 1, 1) := by decide +kernel
theorem dJ6_numberOfTrailingZeros_0f7a4_18 : decode cJ6_numberOfTrailingZeros_0f7a4 18 = .ok (.istore_n 1, 1) := by decide +kernel
theorem dJ6_numberOfTrailingZeros_0f7a4_19 : decode cJ6_numberOfTrailingZeros_0f7a4 19 = .ok (.iload_n 0, 1) := by decide +kernel
theorem dJ6_numberOfTrailingZeros_0f7a4_20 : decode cJ6_numberOfTrailingZeros_0f7a4 20 = .ok (.ldc_w 264, 3) := by decide +kernel
theorem dJ6_numberOfTrailingZeros_0f7a4_23 : decode cJ6_numberOfTrailingZeros_0f7a4 23 = .ok (.if_icmp .le 11, 3) := by decide +kernel
theorem dJ6_numberOfTrailingZeros_0f7a4_26 : decode cJ6_numberOfTrailingZeros_0f7a4 26 = .ok (.iinc 1 16, 3) := by decide +kernel
theorem dJ6_numberOfTrailingZeros_0f7a4_29 : decode cJ6_numberOfTrailingZeros_0f7a4 29 = .ok (.iload_n 0, 1) := by decide +kernel
theorem dJ6_numberOfTrailingZeros_0f7a4_30 : decode cJ6_numberOfTrailingZeros_0f7a4 30 = .ok (.bipush 16, 2) := by decide +kernel
theorem dJ6_numberOfTrailingZeros_0f7a4_32 : decode cJ6_numberOfTrailingZeros_0f7a4 32 = .ok (.iushr, 1) := by decide +kernel
theorem dJ6_numberOfTrailingZeros_0f7a4_33 : decode cJ6_numberOfTrailingZeros_0f7a4 33 = .ok (.istore_n 0, 1) := by decide +kernel
theorem dJ6_numberOfTrailingZeros_0f7a4_34 : decode cJ6_numberOfTrailingZeros_0f7a4 34 = .ok (.iload_n 0, 1) := by decide +kernel
theorem dJ6_numberOfTrailingZeros_0f7a4_35 : decode cJ6_numberOfTrailingZeros_0f7a4 35 = .ok (.sipush 256, 3) := by decide +kernel
theorem dJ6_numberOfTrailingZeros_0f7a4_38 : decode cJ6_numberOfTrailingZeros_0f7a4 38 = .ok (.if_icmp .le 11, 3) := by decide +kernel
theorem dJ6_numberOfTrailingZeros_0f7a4_41 : decode cJ6_numberOfTrailingZeros_0f7a4 41 = .ok (.iinc 1 8, 3) := by decide +kernel
theorem dJ6_numberOfTrailingZeros_0f7a4_44 : decode cJ6_numberOfTrailingZeros_0f7a4 44 = .ok (.iload_n 0, 1) := by decide +kernel
theorem dJ6_numberOfTrailingZeros_0f7a4_45 : decode cJ6_numberOfTrailingZeros_0f7a4 45 = .ok (.bipush 8, 2) := by decide +kernel
theorem dJ6_numberOfTrailingZeros_0f7a4_47 : decode cJ6_numberOfTrailingZeros_0f7a4 47 = .ok (.iushr, 1) := by decide +kernel
theorem dJ6_numberOfTrailingZeros_0f7a4_48 : decode cJ6_numberOfTrailingZeros_0f7a4 48 = .ok (.istore_n 0, 1) := by decide +kernel
theorem dJ6_numberOfTrailingZeros_0f7a4_49 : decode cJ6_numberOfTrailingZeros_0f7a4 49 = .ok (.iload_n 0, 1) := by decide +kernel
theorem dJ6_numberOfTrailingZeros_0f7a4_50 : decode cJ6_numberOfTrailingZeros_0f7a4 50 = .ok (.bipush 16, 2) := by decide +kernel
theorem dJ6_numberOfTrailingZeros_0f7a4_52 : decode cJ6_numberOfTrailingZeros_0f7a4 52 = .ok (.if_icmp .le 10, 3) := by decide +kernel
theorem dJ6_numberOfTrailingZeros_0f7a4_55 : decode cJ6_numberOfTrailingZeros_0f7a4 55 = .ok (.iinc 1 4, 3) := by decide +kernel
theorem dJ6_numberOfTrailingZeros_0f7a4_58 : decode cJ6_numberOfTrailingZeros_0f7a4 58 = .ok (.iload_n 0, 1) := by decide +kernel
theorem dJ6_numberOfTrailingZeros_0f7a4_59 : decode cJ6_numberOfTrailingZeros_0f7a4 59 = .ok (.iconst 4, 1) := by decide +kernel
theorem dJ6_numberOfTrailingZeros_0f7a4_60 : decode cJ6_numberOfTrailingZeros_0f7a4 60 = .ok (.iushr, 1) := by decide +kernel
theorem dJ6_numberOfTrailingZeros_0f7a4_61 : decode cJ6_numberOfTrailingZeros_0f7a4 61 = .ok (.istore_n 0, 1) := by decide +kernel
theorem dJ6_numberOfTrailingZeros_0f7a4_62 : decode cJ6_numberOfTrailingZeros_0f7a4 62 = .ok (.iload_n 0, 1) := by decide +kernel
theorem dJ6_numberOfTrailingZeros_0f7a4_63 : decode cJ6_numberOfTrailingZeros_0f7a4 63 = .ok (.iconst 4, 1) := by decide +kernel
theorem dJ6_numberOfTrailingZeros_0f7a4_64 : decode cJ6_numberOfTrailingZeros_0f7a4 64 = .ok (.if_icmp .le 10, 3) := by decide +kernel
theorem dJ6_numberOfTrailingZeros_0f7a4_67 : decode cJ6_numberOfTrailingZeros_0f7a4 67 = .ok (.iinc 1 2, 3) := by decide +kernel
theorem dJ6_numberOfTrailingZeros_0f7a4_70 : decode cJ6_numberOfTrailingZeros_0f7a4 70 = .ok (.iload_n 0, 1) := by decide +kernel
theorem dJ6_numberOfTrailingZeros_0f7a4_71 : decode cJ6_numberOfTrailingZeros_0f7a4 71 = .ok (.iconst 2, 1) := by decide +kernel
theorem dJ6_numberOfTrailingZeros_0f7a4_72 : decode cJ6_numberOfTrailingZeros_0f7a4 72 = .ok (.iushr, 1) := by decide +kernel
theorem dJ6_numberOfTrailingZeros_0f7a4_73 : decode cJ6_numberOfTrailingZeros_0f7a4 73 = .ok (.istore_n 0, 1) := by decide +kernel
theorem dJ6_numberOfTrailingZeros_0f7a4_74 : decode cJ6_numberOfTrailingZeros_0f7a4 74 = .ok (.iload_n 1, 1) := by decide +kernel
theorem dJ6_numberOfTrailingZeros_0f7a4_75 : decode cJ6_numberOfTrailingZeros_0f7a4 75 = .ok (.iload_n 0, 1) := by decide +kernel
theorem dJ6_numberOfTrailingZeros_0f7a4_76 : decode cJ6_numberOfTrailingZeros_0f7a4 76 = .ok (.iconst 1, 1) := by decide +kernel
theorem dJ6_numberOfTrailingZeros_0f7a4_77 : decode cJ6_numberOfTrailingZeros_0f7a4 77 = .ok (.iushr, 1) := by decide +kernel
theorem dJ6_numberOfTrailingZeros_0f7a4_78 : decode cJ6_numberOfTrailingZeros_0f7a4 78 = .ok (.iadd, 1) := by decide +kernel
theorem dJ6_numberOfTrailingZeros_0f7a4_79 : decode cJ6_numberOfTrailingZeros_0f7a4 79 = .ok (.ireturn, 1) := by decide +kernel
theorem dJ6_bitCount_0f7a4_0 : decode cJ6_bitCount_0f7a4 0 = .ok (.iload_n 0, 1) := by decide +kernel
theorem dJ6_bitCount_0f7a4_1 : decode cJ6_bitCount_0f7a4 1 = .ok (.iload_n 0, 1) := by decide +kernel
theorem dJ6_bitCount_0f7a4_2 : decode cJ6_bitCount_0f7a4 2 = .ok (.iconst 1, 1) := by decide +kernel
theorem dJ6_bitCount_0f7a4_3 : decode cJ6_bitCount_0f7a4 3 = .ok (.iushr, 1) := by decide +kernel
theorem dJ6_bitCount_0f7a4_4 : decode cJ6_bitCount_0f7a4 4 = .ok (.ldc_w 265, 3) := by decide +kernel
theorem dJ6_bitCount_0f7a4_7 : decode cJ6_bitCount_0f7a4 7 = .ok (.iand, 1) := by decide +kernel
theorem dJ6_bitCount_0f7a4_8 : decode cJ6_bitCount_0f7a4 8 = .ok (.isub, 1) := by decide +kernel
theorem dJ6_bitCount_0f7a4_9 : decode cJ6_bitCount_0f7a4 9 = .ok (.istore_n 0, 1) := by decide +kernel
theorem dJ6_bitCount_0f7a4_10 : decode cJ6_bitCount_0f7a4 10 = .ok (.iload_n 0, 1) := by decide +kernel
theorem dJ6_bitCount_0f7a4_11 : decode cJ6_bitCount_0f7a4 11 = .ok (.ldc_w 266, 3) := by decide +kernel
theorem dJ6_bitCount_0f7a4_14 : decode cJ6_bitCount_0f7a4 14 = .ok (.iand, 1) := by decide +kernel
theorem dJ6_bitCount_0f7a4_15 : decode cJ6_bitCount_0f7a4 15 = .ok (.iload_n 0, 1) := by decide +kernel
theorem dJ6_bitCount_0f7a4_16 : decode cJ6_bitCount_0f7a4 16 = .ok (.iconst 2, 1) := by decide +kernel
theorem dJ6_bitCount_0f7a4_17 : decode cJ6_bitCount_0f7a4 17 = .ok (.iushr, 1) := by decide +kernel
theorem dJ6_bitCount_0f7a4_18 : decode cJ6_bitCount_0f7a4 18 = .ok (.ldc_w 266, 3) := by decide +kernel
theorem dJ6_bitCount_0f7a4_21 : decode cJ6_bitCount_0f7a4 21 = .ok (.iand, 1) := by decide +kernel
theorem dJ6_bitCount_0f7a4_22 : decode cJ6_bitCount_0f7a4 22 = .ok (.iadd, 1) := by decide +kernel
theorem dJ6_bitCount_0f7a4_23 : decode cJ6_bitCount_0f7a4 23 = .ok (.istore_n 0, 1) := by decide +kernel
theorem dJ6_bitCount_0f7a4_24 : decode cJ6_bitCount_0f7a4 24 = .ok (.iload_n 0, 1) := by decide +kernel
theorem dJ6_bitCount_0f7a4_25 : decode cJ6_bitCount_0f7a4 25 = .ok (.iload_n 0, 1) := by decide +kernel
theorem dJ6_bitCount_0f7a4_26 : decode cJ6_bitCount_0f7a4 26 = .ok (.iconst 4, 1) := by decide +kernel
theorem dJ6_bitCount_0f7a4_27 : decode cJ6_bitCount_0f7a4 27 = .ok (.iushr, 1) := by decide +kernel
theorem dJ6_bitCount_0f7a4_28 : decode cJ6_bitCount_0f7a4 28 = .ok (.iadd, 1) := by decide +kernel
theorem dJ6_bitCount_0f7a4_29 : decode cJ6_bitCount_0f7a4 29 = .ok (.ldc_w 267, 3) := by decide +kernel
theorem dJ6_bitCount_0f7a4_32 : decode cJ6_bitCount_0f7a4 32 = .ok (.iand, 1) := by decide +kernel
theorem dJ6_bitCount_0f7a4_33 : decode cJ6_bitCount_0f7a4 33 = .ok (.istore_n 0, 1) := by decide +kernel
theorem dJ6_bitCount_0f7a4_34 : decode cJ6_bitCount_0f7a4 34 = .ok (.iload_n 0, 1) := by decide +kernel
theorem dJ6_bitCount_0f7a4_35 : decode cJ6_bitCount_0f7a4 35 = .ok (.iload_n 0, 1) := by decide +kernel
theorem dJ6_bitCount_0f7a4_36 : decode cJ6_bitCount_0f7a4 36 = .ok (.bipush 8, 2) := by decide +kernel
theorem dJ6_bitCount_0f7a4_38 : decode cJ6_bitCount_0f7a4 38 = .ok (.iushr, 1) := by decide +kernel
theorem dJ6_bitCount_0f7a4_39 : decode cJ6_bitCount_0f7a4 39 = .ok (.iadd, 1) := by decide +kernel
theorem dJ6_bitCount_0f7a4_40 : decode cJ6_bitCount_0f7a4 40 = .ok (.istore_n 0, 1) := by decide +kernel
theorem dJ6_bitCount_0f7a4_41 : decode cJ6_bitCount_0f7a4 41 = .ok (.iload_n 0, 1) := by decide +kernel
theorem dJ6_bitCount_0f7a4_42 : decode cJ6_bitCount_0f7a4 42 = .ok (.iload_n 0, 1) := by decide +kernel
theorem dJ6_bitCount_0f7a4_43 : decode cJ6_bitCount_0f7a4 43 = .ok (.bipush 16, 2) := by decide +kernel
theorem dJ6_bitCount_0f7a4_45 : decode cJ6_bitCount_0f7a4 45 = .ok (.iushr, 1) := by decide +kernel
theorem dJ6_bitCount_0f7a4_46 : decode cJ6_bitCount_0f7a4 46 = .ok (.iadd, 1) := by decide +kernel
theorem dJ6_bitCount_0f7a4_47 : decode cJ6_bitCount_0f7a4 47 = .ok (.istore_n 0, 1) := by decide +kernel
theorem dJ6_bitCount_0f7a4_48 : decode cJ6_bitCount_0f7a4 48 = .ok (.iload_n 0, 1) := by decide +kernel
theorem dJ6_bitCount_0f7a4_49 : decode cJ6_bitCount_0f7a4 49 = .ok (.bipush 63, 2) := by decide +kernel
theorem dJ6_bitCount_0f7a4_51 : decode cJ6_bitCount_0f7a4 51 = .ok (.iand, 1) := by decide +kernel
theorem dJ6_bitCount_0f7a4_52 : decode cJ6_bitCount_0f7a4 52 = .ok (.ireturn, 1) := by decide +kernel
theorem dJ9_max_7cf53_0 : decode cJ9_max_7cf53 0 = .ok (.iload_n 0, 1) := by decide +kernel
theorem dJ9_max_7cf53_1 : decode cJ9_max_7cf53 1 = .ok (.iload_n 1, 1) := by decide +kernel
theorem dJ9_max_7cf53_2 : decode cJ9_max_7cf53 2 = .ok (.if_icmp .lt 7, 3) := by decide +kernel
theorem dJ9_max_7cf53_5 : decode cJ9_max_7cf53 5 = .ok (.iload_n 0, 1) := by decide +kernel
theorem dJ9_max_7cf53_6 : decode cJ9_max_7cf53 6 = .ok (.goto 4, 3) := by decide +kernel
theorem dJ9_max_7cf53_9 : decode cJ9_max_7cf53 9 = .ok (.iload_n 1, 1) := by decide +kernel
theorem dJ9_max_7cf53_10 : decode cJ9_max_7cf53 10 = .ok (.ireturn, 1) := by decide +kernel
theorem dJ9_max_f86c9_0 : decode cJ9_max_f86c9 0 = .ok (.lload_n 0, 1) := by decide +kernel
theorem dJ9_max_f86c9_1 : decode cJ9_max_f86c9 1 = .ok (.lload_n 2, 1) := by decide +kernel
theorem dJ9_max_f86c9_2 : decode cJ9_max_f86c9 2 = .ok (.lcmp, 1) := by decide +kernel
theorem dJ9_max_f86c9_3 : decode cJ9_max_f86c9 3 = .ok (.ifCond .lt 7, 3) := by decide +kernel
theorem dJ9_max_f86c9_6 : decode cJ9_max_f86c9 6 = .ok (.lload_n 0, 1) := by decide +kernel
theorem dJ9_max_f86c9_7 : decode cJ9_max_f86c9 7 = .ok (.goto 4, 3) := by decide +kernel
theorem dJ9_max_f86c9_10 : decode cJ9_max_f86c9 10 = .ok (.lload_n 2, 1) := by decide +kernel
theorem dJ9_max_f86c9_11 : decode cJ9_max_f86c9 11 = .ok (.lreturn, 1) := by decide +kernel
theorem dJ9_min_7cf53_0 : decode cJ9_min_7cf53 0 = .ok (.iload_n 0, 1) := by decide +kernel
theorem dJ9_min_7cf53_1 : decode cJ9_min_7cf53 1 = .ok (.iload_n 1, 1) := by decide +kernel
theorem dJ9_min_7cf53_2 : decode cJ9_min_7cf53 2 = .ok (.if_icmp .gt 7, 3) := by decide +kernel
theorem dJ9_min_7cf53_5 : decode cJ9_min_7cf53 5 = .ok (.iload_n 0, 1) := by decide +kernel
theorem dJ9_min_7cf53_6 : decode cJ9_min_7cf53 6 = .ok (.goto 4, 3) := by decide +kernel
theorem dJ9_min_7cf53_9 : decode cJ9_min_7cf53 9 = .ok (.iload_n 1, 1) := by decide +kernel
theorem dJ9_min_7cf53_10 : decode cJ9_min_7cf53 10 = .ok (.ireturn, 1) := by decide +kernel
theorem dJ7_fill_d0a16_0 : decode cJ7_fill_d0a16 0 = .ok (.iconst 0, 1) := by decide +kernel
theorem dJ7_fill_d0a16_1 : decode cJ7_fill_d0a16 1 = .ok (.istore_n 3, 1) := by decide +kernel
theorem dJ7_fill_d0a16_2 : decode cJ7_fill_d0a16 2 = .ok (.aload_n 0, 1) := by decide +kernel
theorem dJ7_fill_d0a16_3 : decode cJ7_fill_d0a16 3 = .ok (.arraylength, 1) := by decide +kernel
theorem dJ7_fill_d0a16_4 : decode cJ7_fill_d0a16 4 = .ok (.istore 4, 2) := by decide +kernel
theorem dJ7_fill_d0a16_6 : decode cJ7_fill_d0a16 6 = .ok (.iload_n 3, 1) := by decide +kernel
theorem dJ7_fill_d0a16_7 : decode cJ7_fill_d0a16 7 = .ok (.iload 4, 2) := by decide +kernel
theorem dJ7_fill_d0a16_9 : decode cJ7_fill_d0a16 9 = .ok (.if_icmp .ge 13, 3) := by decide +kernel
theorem dJ7_fill_d0a16_12 : decode cJ7_fill_d0a16 12 = .ok (.aload_n 0, 1) := by decide +kernel
theorem dJ7_fill_d0a16_13 : decode cJ7_fill_d0a16 13 = .ok (.iload_n 3, 1) := by decide +kernel
theorem dJ7_fill_d0a16_14 : decode cJ7_fill_d0a16 14 = .ok (.lload_n 1, 1) := by decide +kernel
theorem dJ7_fill_d0a16_15 : decode cJ7_fill_d0a16 15 = .ok (.lastore, 1) := by decide +kernel
theorem dJ7_fill_d0a16_16 : decode cJ7_fill_d0a16 16 = .ok (.iinc 3 1, 3) := by decide +kernel
theorem dJ7_fill_d0a16_19 : decode cJ7_fill_d0a16 19 = .ok (.goto (-13), 3) := by decide +kernel
theorem dJ7_fill_d0a16_22 : decode cJ7_fill_d0a16 22 = .ok (.return_, 1) := by decide +kernel
theorem dJ7_fill_53178_0 : decode cJ7_fill_53178 0 = .ok (.iconst 0, 1) := by decide +kernel
theorem dJ7_fill_53178_1 : decode cJ7_fill_53178 1 = .ok (.istore_n 2, 1) := by decide +kernel
theorem dJ7_fill_53178_2 : decode cJ7_fill_53178 2 = .ok (.aload_n 0, 1) := by decide +kernel
theorem dJ7_fill_53178_3 : decode cJ7_fill_53178 3 = .ok (.arraylength, 1) := by decide +kernel
theorem dJ7_fill_53178_4 : decode cJ7_fill_53178 4 = .ok (.istore_n 3, 1) := by decide +kernel
theorem dJ7_fill_53178_5 : decode cJ7_fill_53178 5 = .ok (.iload_n 2, 1) := by decide +kernel
theorem dJ7_fill_53178_6 : decode cJ7_fill_53178 6 = .ok (.iload_n 3, 1) := by decide +kernel
theorem dJ7_fill_53178_7 : decode cJ7_fill_53178 7 = .ok (.if_icmp .ge 13, 3) := by decide +kernel
theorem dJ7_fill_53178_10 : decode cJ7_fill_53178 10 = .ok (.aload_n 0, 1) := by decide +kernel
theorem dJ7_fill_53178_11 : decode cJ7_fill_53178 11 = .ok (.iload_n 2, 1) := by decide +kernel
theorem dJ7_fill_53178_12 : decode cJ7_fill_53178 12 = .ok (.iload_n 1, 1) := by decide +kernel
theorem dJ7_fill_53178_13 : decode cJ7_fill_53178 13 = .ok (.iastore, 1) := by decide +kernel
theorem dJ7_fill_53178_14 : decode cJ7_fill_53178 14 = .ok (.iinc 2 1, 3) := by decide +kernel
theorem dJ7_fill_53178_17 : decode cJ7_fill_53178 17 = .ok (.goto (-12), 3) := by decide +kernel
theorem dJ7_fill_53178_20 : decode cJ7_fill_53178 20 = .ok (.return_, 1) := by decide +kernel
