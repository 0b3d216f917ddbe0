theorem dX3_init_0 : decode cX3_init 0 = .ok (.aload_n 0, 1) := by decide +kernel
theorem dX3_init_1 : decode cX3_init 1 = .ok (.invokespecial 5, 3) := by decide +kernel
theorem dX3_init_4 : decode cX3_init 4 = .ok (.aload_n 0, 1) := by decide +kernel
theorem dX3_init_5 : decode cX3_init 5 = .ok (.sipush 256, 3) := by decide +kernel
theorem dX3_init_8 : decode cX3_init 8 = .ok (.newarray .long, 2) := by decide +kernel
theorem dX3_init_10 : decode cX3_init 10 = .ok (.putfield 11, 3) := by decide +kernel
theorem dX3_init_13 : decode cX3_init 13 = .ok (.return_, 1) := by decide +kernel
theorem dX3_countOf_0 : decode cX3_countOf 0 = .ok (.lload_n 0, 1) := by decide +kernel
theorem dX3_countOf_1 : decode cX3_countOf 1 = .ok (.bipush 40, 2) := by decide +kernel
theorem dX3_countOf_3 : decode cX3_countOf 3 = .ok (.lshr, 1) := by decide +kernel
theorem dX3_countOf_4 : decode cX3_countOf 4 = .ok (.l2i, 1) := by decide +kernel
theorem dX3_countOf_5 : decode cX3_countOf 5 = .ok (.ireturn, 1) := by decide +kernel
theorem dX3_worthOf_0 : decode cX3_worthOf 0 = .ok (.lload_n 0, 1) := by decide +kernel
theorem dX3_worthOf_1 : decode cX3_worthOf 1 = .ok (.bipush 32, 2) := by decide +kernel
theorem dX3_worthOf_3 : decode cX3_worthOf 3 = .ok (.lshr, 1) := by decide +kernel
theorem dX3_worthOf_4 : decode cX3_worthOf 4 = .ok (.l2i, 1) := by decide +kernel
theorem dX3_worthOf_5 : decode cX3_worthOf 5 = .ok (.sipush 255, 3) := by decide +kernel
theorem dX3_worthOf_8 : decode cX3_worthOf 8 = .ok (.iand, 1) := by decide +kernel
theorem dX3_worthOf_9 : decode cX3_worthOf 9 = .ok (.ireturn, 1) := by decide +kernel
theorem dX3_otherOf_0 : decode cX3_otherOf 0 = .ok (.lload_n 0, 1) := by decide +kernel
theorem dX3_otherOf_1 : decode cX3_otherOf 1 = .ok (.iconst 4, 1) := by decide +kernel
theorem dX3_otherOf_2 : decode cX3_otherOf 2 = .ok (.bipush 7, 2) := by decide +kernel
theorem dX3_otherOf_4 : decode cX3_otherOf 4 = .ok (.iload_n 2, 1) := by decide +kernel
theorem dX3_otherOf_5 : decode cX3_otherOf 5 = .ok (.isub, 1) := by decide +kernel
theorem dX3_otherOf_6 : decode cX3_otherOf 6 = .ok (.imul, 1) := by decide +kernel
theorem dX3_otherOf_7 : decode cX3_otherOf 7 = .ok (.lshr, 1) := by decide +kernel
theorem dX3_otherOf_8 : decode cX3_otherOf 8 = .ok (.l2i, 1) := by decide +kernel
theorem dX3_otherOf_9 : decode cX3_otherOf 9 = .ok (.bipush 15, 2) := by decide +kernel
theorem dX3_otherOf_11 : decode cX3_otherOf 11 = .ok (.iand, 1) := by decide +kernel
theorem dX3_otherOf_12 : decode cX3_otherOf 12 = .ok (.istore_n 3, 1) := by decide +kernel
theorem dX3_otherOf_13 : decode cX3_otherOf 13 = .ok (.iload_n 3, 1) := by decide +kernel
theorem dX3_otherOf_14 : decode cX3_otherOf 14 = .ok (.ifCond .ne 7, 3) := by decide +kernel
theorem dX3_otherOf_17 : decode cX3_otherOf 17 = .ok (.iconst (-1), 1) := by decide +kernel
theorem dX3_otherOf_18 : decode cX3_otherOf 18 = .ok (.goto 7, 3) := by decide +kernel
theorem dX3_otherOf_21 : decode cX3_otherOf 21 = .ok (.bipush 8, 2) := by decide +kernel
theorem dX3_otherOf_23 : decode cX3_otherOf 23 = .ok (.iload_n 3, 1) := by decide +kernel
theorem dX3_otherOf_24 : decode cX3_otherOf 24 = .ok (.isub, 1) := by decide +kernel
theorem dX3_otherOf_25 : decode cX3_otherOf 25 = .ok (.ireturn, 1) := by decide +kernel
theorem dX3_digit_0 : decode cX3_digit 0 = .ok (.bipush 8, 2) := by decide +kernel
theorem dX3_digit_2 : decode cX3_digit 2 = .ok (.iload_n 1, 1) := by decide +kernel
theorem dX3_digit_3 : decode cX3_digit 3 = .ok (.isub, 1) := by decide +kernel
theorem dX3_digit_4 : decode cX3_digit 4 = .ok (.i2l, 1) := by decide +kernel
theorem dX3_digit_5 : decode cX3_digit 5 = .ok (.iconst 4, 1) := by decide +kernel
theorem dX3_digit_6 : decode cX3_digit 6 = .ok (.bipush 7, 2) := by decide +kernel
theorem dX3_digit_8 : decode cX3_digit 8 = .ok (.iload_n 0, 1) := by decide +kernel
theorem dX3_digit_9 : decode cX3_digit 9 = .ok (.isub, 1) := by decide +kernel
theorem dX3_digit_10 : decode cX3_digit 10 = .ok (.imul, 1) := by decide +kernel
theorem dX3_digit_11 : decode cX3_digit 11 = .ok (.lshl, 1) := by decide +kernel
theorem dX3_digit_12 : decode cX3_digit 12 = .ok (.lreturn, 1) := by decide +kernel
theorem dX3_findMatch_0 : decode cX3_findMatch 0 = .ok (.aload_n 0, 1) := by decide +kernel
theorem dX3_findMatch_1 : decode cX3_findMatch 1 = .ok (.getfield 11, 3) := by decide +kernel
theorem dX3_findMatch_4 : decode cX3_findMatch 4 = .ok (.lconst 0, 1) := by decide +kernel
theorem dX3_findMatch_5 : decode cX3_findMatch 5 = .ok (.invokestatic 15, 3) := by decide +kernel
theorem dX3_findMatch_8 : decode cX3_findMatch 8 = .ok (.iconst 1, 1) := by decide +kernel
theorem dX3_findMatch_9 : decode cX3_findMatch 9 = .ok (.aload_n 1, 1) := by decide +kernel
theorem dX3_findMatch_10 : decode cX3_findMatch 10 = .ok (.getfield 21, 3) := by decide +kernel
theorem dX3_findMatch_13 : decode cX3_findMatch 13 = .ok (.getfield 27, 3) := by decide +kernel
theorem dX3_findMatch_16 : decode cX3_findMatch 16 = .ok (.ishl, 1) := by decide +kernel
theorem dX3_findMatch_17 : decode cX3_findMatch 17 = .ok (.istore_n 2, 1) := by decide +kernel
theorem dX3_findMatch_18 : decode cX3_findMatch 18 = .ok (.aload_n 1, 1) := by decide +kernel
theorem dX3_findMatch_19 : decode cX3_findMatch 19 = .ok (.getfield 33, 3) := by decide +kernel
theorem dX3_findMatch_22 : decode cX3_findMatch 22 = .ok (.getfield 27, 3) := by decide +kernel
theorem dX3_findMatch_25 : decode cX3_findMatch 25 = .ok (.iconst 1, 1) := by decide +kernel
theorem dX3_findMatch_26 : decode cX3_findMatch 26 = .ok (.isub, 1) := by decide +kernel
theorem dX3_findMatch_27 : decode cX3_findMatch 27 = .ok (.istore_n 3, 1) := by decide +kernel
theorem dX3_findMatch_28 : decode cX3_findMatch 28 = .ok (.iload_n 3, 1) := by decide +kernel
theorem dX3_findMatch_29 : decode cX3_findMatch 29 = .ok (.ifCond .lt 69, 3) := by decide +kernel
theorem dX3_findMatch_32 : decode cX3_findMatch 32 = .ok (.aload_n 1, 1) := by decide +kernel
theorem dX3_findMatch_33 : decode cX3_findMatch 33 = .ok (.iload_n 3, 1) := by decide +kernel
theorem dX3_findMatch_34 : decode cX3_findMatch 34 = .ok (.invokevirtual 36, 3) := by decide +kernel
theorem dX3_findMatch_37 : decode cX3_findMatch 37 = .ok (.istore 4, 2) := by decide +kernel
theorem dX3_findMatch_39 : decode cX3_findMatch 39 = .ok (.aload_n 1, 1) := by decide +kernel
theorem dX3_findMatch_40 : decode cX3_findMatch 40 = .ok (.getfield 33, 3) := by decide +kernel
theorem dX3_findMatch_43 : decode cX3_findMatch 43 = .ok (.getfield 40, 3) := by decide +kernel
theorem dX3_findMatch_46 : decode cX3_findMatch 46 = .ok (.iload_n 3, 1) := by decide +kernel
theorem dX3_findMatch_47 : decode cX3_findMatch 47 = .ok (.iaload, 1) := by decide +kernel
theorem dX3_findMatch_48 : decode cX3_findMatch 48 = .ok (.i2l, 1) := by decide +kernel
theorem dX3_findMatch_49 : decode cX3_findMatch 49 = .ok (.bipush 32, 2) := by decide +kernel
theorem dX3_findMatch_51 : decode cX3_findMatch 51 = .ok (.lshl, 1) := by decide +kernel
theorem dX3_findMatch_52 : decode cX3_findMatch 52 = .ok (.lstore 5, 2) := by decide +kernel
theorem dX3_findMatch_54 : decode cX3_findMatch 54 = .ok (.iconst 0, 1) := by decide +kernel
theorem dX3_findMatch_55 : decode cX3_findMatch 55 = .ok (.istore 7, 2) := by decide +kernel
theorem dX3_findMatch_57 : decode cX3_findMatch 57 = .ok (.iload 7, 2) := by decide +kernel
theorem dX3_findMatch_59 : decode cX3_findMatch 59 = .ok (.iload_n 2, 1) := by decide +kernel
theorem dX3_findMatch_60 : decode cX3_findMatch 60 = .ok (.if_icmp .ge 32, 3) := by decide +kernel
theorem dX3_findMatch_63 : decode cX3_findMatch 63 = .ok (.aload_n 0, 1) := by decide +kernel
theorem dX3_findMatch_64 : decode cX3_findMatch 64 = .ok (.getfield 11, 3) := by decide +kernel
theorem dX3_findMatch_67 : decode cX3_findMatch 67 = .ok (.iload 7, 2) := by decide +kernel
theorem dX3_findMatch_69 : decode cX3_findMatch 69 = .ok (.aload_n 0, 1) := by decide +kernel
theorem dX3_findMatch_70 : decode cX3_findMatch 70 = .ok (.iload_n 3, 1) := by decide +kernel
theorem dX3_findMatch_71 : decode cX3_findMatch 71 = .ok (.iload 4, 2) := by decide +kernel
theorem dX3_findMatch_73 : decode cX3_findMatch 73 = .ok (.iload 7, 2) := by decide +kernel
theorem dX3_findMatch_75 : decode cX3_findMatch 75 = .ok (.iconst (-1), 1) := by decide +kernel
theorem dX3_findMatch_76 : decode cX3_findMatch 76 = .ok (.ixor, 1) := by decide +kernel
theorem dX3_findMatch_77 : decode cX3_findMatch 77 = .ok (.iand, 1) := by decide +kernel
theorem dX3_findMatch_78 : decode cX3_findMatch 78 = .ok (.iload 7, 2) := by decide +kernel
theorem dX3_findMatch_80 : decode cX3_findMatch 80 = .ok (.lload 5, 2) := by decide +kernel
theorem dX3_findMatch_82 : decode cX3_findMatch 82 = .ok (.invokevirtual 44, 3) := by decide +kernel
theorem dX3_findMatch_85 : decode cX3_findMatch 85 = .ok (.lastore, 1) := by decide +kernel
theorem dX3_findMatch_86 : decode cX3_findMatch 86 = .ok (.iinc 7 1, 3) := by decide +kernel
theorem dX3_findMatch_89 : decode cX3_findMatch 89 = .ok (.goto (-32), 3) := by decide +kernel
theorem dX3_findMatch_92 : decode cX3_findMatch 92 = .ok (.iinc 3 (-1), 3) := by decide +kernel
theorem dX3_findMatch_95 : decode cX3_findMatch 95 = .ok (.goto (-67), 3) := by decide +kernel
theorem dX3_findMatch_98 : decode cX3_findMatch 98 = .ok (.aload_n 0, 1) := by decide +kernel
theorem dX3_findMatch_99 : decode cX3_findMatch 99 = .ok (.aload_n 0, 1) := by decide +kernel
theorem dX3_findMatch_100 : decode cX3_findMatch 100 = .ok (.getfield 11, 3) := by decide +kernel
theorem dX3_findMatch_103 : decode cX3_findMatch 103 = .ok (.iconst 0, 1) := by decide +kernel
theorem dX3_findMatch_104 : decode cX3_findMatch 104 = .ok (.laload, 1) := by decide +kernel
theorem dX3_findMatch_105 : decode cX3_findMatch 105 = .ok (.putfield 48, 3) := by decide +kernel
theorem dX3_findMatch_108 : decode cX3_findMatch 108 = .ok (.return_, 1) := by decide +kernel
theorem dX3_withOneMore_0 : decode cX3_withOneMore 0 = .ok (.aload_n 0, 1) := by decide +kernel
theorem dX3_withOneMore_1 : decode cX3_withOneMore 1 = .ok (.getfield 11, 3) := by decide +kernel
theorem dX3_withOneMore_4 : decode cX3_withOneMore 4 = .ok (.iload_n 3, 1) := by decide +kernel
theorem dX3_withOneMore_5 : decode cX3_withOneMore 5 = .ok (.laload, 1) := by decide +kernel
theorem dX3_withOneMore_6 : decode cX3_withOneMore 6 = .ok (.lstore 6, 2) := by decide +kernel
theorem dX3_withOneMore_8 : decode cX3_withOneMore 8 = .ok (.iconst 0, 1) := by decide +kernel
theorem dX3_withOneMore_9 : decode cX3_withOneMore 9 = .ok (.istore 8, 2) := by decide +kernel
theorem dX3_withOneMore_11 : decode cX3_withOneMore 11 = .ok (.iload_n 2, 1) := by decide +kernel
theorem dX3_withOneMore_12 : decode cX3_withOneMore 12 = .ok (.iload 8, 2) := by decide +kernel
theorem dX3_withOneMore_14 : decode cX3_withOneMore 14 = .ok (.ishr, 1) := by decide +kernel
theorem dX3_withOneMore_15 : decode cX3_withOneMore 15 = .ok (.ifCond .eq 62, 3) := by decide +kernel
theorem dX3_withOneMore_18 : decode cX3_withOneMore 18 = .ok (.iload 8, 2) := by decide +kernel
theorem dX3_withOneMore_20 : decode cX3_withOneMore 20 = .ok (.bipush 8, 2) := by decide +kernel
theorem dX3_withOneMore_22 : decode cX3_withOneMore 22 = .ok (.if_icmp .ge 55, 3) := by decide +kernel
theorem dX3_withOneMore_25 : decode cX3_withOneMore 25 = .ok (.iload_n 2, 1) := by decide +kernel
theorem dX3_withOneMore_26 : decode cX3_withOneMore 26 = .ok (.iload 8, 2) := by decide +kernel
theorem dX3_withOneMore_28 : decode cX3_withOneMore 28 = .ok (.ishr, 1) := by decide +kernel
theorem dX3_withOneMore_29 : decode cX3_withOneMore 29 = .ok (.iconst 1, 1) := by decide +kernel
theorem dX3_withOneMore_30 : decode cX3_withOneMore 30 = .ok (.iand, 1) := by decide +kernel
theorem dX3_withOneMore_31 : decode cX3_withOneMore 31 = .ok (.iconst 1, 1) := by decide +kernel
theorem dX3_withOneMore_32 : decode cX3_withOneMore 32 = .ok (.if_icmp .ne 39, 3) := by decide +kernel
theorem dX3_withOneMore_35 : decode cX3_withOneMore 35 = .ok (.aload_n 0, 1) := by decide +kernel
theorem dX3_withOneMore_36 : decode cX3_withOneMore 36 = .ok (.getfield 11, 3) := by decide +kernel
theorem dX3_withOneMore_39 : decode cX3_withOneMore 39 = .ok (.iload_n 3, 1) := by decide +kernel
theorem dX3_withOneMore_40 : decode cX3_withOneMore 40 = .ok (.iconst 1, 1) := by decide +kernel
theorem dX3_withOneMore_41 : decode cX3_withOneMore 41 = .ok (.iload 8, 2) := by decide +kernel
theorem dX3_withOneMore_43 : decode cX3_withOneMore 43 = .ok (.ishl, 1) := by decide +kernel
theorem dX3_withOneMore_44 : decode cX3_withOneMore 44 = .ok (.ior, 1) := by decide +kernel
theorem dX3_withOneMore_45 : decode cX3_withOneMore 45 = .ok (.laload, 1) := by decide +kernel
theorem dX3_withOneMore_46 : decode cX3_withOneMore 46 = .ok (.ldc2_w 52, 3) := by decide +kernel
theorem dX3_withOneMore_49 : decode cX3_withOneMore 49 = .ok (.ladd, 1) := by decide +kernel
theorem dX3_withOneMore_50 : decode cX3_withOneMore 50 = .ok (.lload 4, 2) := by decide +kernel
theorem dX3_withOneMore_52 : decode cX3_withOneMore 52 = .ok (.ladd, 1) := by decide +kernel
theorem dX3_withOneMore_53 : decode cX3_withOneMore 53 = .ok (.iload_n 1, 1) := by decide +kernel
theorem dX3_withOneMore_54 : decode cX3_withOneMore 54 = .ok (.iload 8, 2) := by decide +kernel
theorem dX3_withOneMore_56 : decode cX3_withOneMore 56 = .ok (.invokestatic 54, 3) := by decide +kernel
theorem dX3_withOneMore_59 : decode cX3_withOneMore 59 = .ok (.ladd, 1) := by decide +kernel
theorem dX3_withOneMore_60 : decode cX3_withOneMore 60 = .ok (.lstore 9, 2) := by decide +kernel
theorem dX3_withOneMore_62 : decode cX3_withOneMore 62 = .ok (.lload 6, 2) := by decide +kernel
theorem dX3_withOneMore_64 : decode cX3_withOneMore 64 = .ok (.lload 9, 2) := by decide +kernel
theorem dX3_withOneMore_66 : decode cX3_withOneMore 66 = .ok (.invokestatic 58, 3) := by decide +kernel
theorem dX3_withOneMore_69 : decode cX3_withOneMore 69 = .ok (.lstore 6, 2) := by decide +kernel
theorem dX3_withOneMore_71 : decode cX3_withOneMore 71 = .ok (.iinc 8 1, 3) := by decide +kernel
theorem dX3_withOneMore_74 : decode cX3_withOneMore 74 = .ok (.goto (-63), 3) := by decide +kernel
theorem dX3_withOneMore_77 : decode cX3_withOneMore 77 = .ok (.lload 6, 2) := by decide +kernel
theorem dX3_withOneMore_79 : decode cX3_withOneMore 79 = .ok (.lreturn, 1) := by decide +kernel
theorem dX3_findPairs_0 : decode cX3_findPairs 0 = .ok (.iconst 1, 1) := by decide +kernel
theorem dX3_findPairs_1 : decode cX3_findPairs 1 = .ok (.aload_n 1, 1) := by decide +kernel
theorem dX3_findPairs_2 : decode cX3_findPairs 2 = .ok (.getfield 27, 3) := by decide +kernel
theorem dX3_findPairs_5 : decode cX3_findPairs 5 = .ok (.ishl, 1) := by decide +kernel
theorem dX3_findPairs_6 : decode cX3_findPairs 6 = .ok (.istore_n 2, 1) := by decide +kernel
theorem dX3_findPairs_7 : decode cX3_findPairs 7 = .ok (.aload_n 0, 1) := by decide +kernel
theorem dX3_findPairs_8 : decode cX3_findPairs 8 = .ok (.getfield 11, 3) := by decide +kernel
theorem dX3_findPairs_11 : decode cX3_findPairs 11 = .ok (.iconst 0, 1) := by decide +kernel
theorem dX3_findPairs_12 : decode cX3_findPairs 12 = .ok (.lconst 0, 1) := by decide +kernel
theorem dX3_findPairs_13 : decode cX3_findPairs 13 = .ok (.lastore, 1) := by decide +kernel
theorem dX3_findPairs_14 : decode cX3_findPairs 14 = .ok (.iconst 1, 1) := by decide +kernel
theorem dX3_findPairs_15 : decode cX3_findPairs 15 = .ok (.istore_n 3, 1) := by decide +kernel
theorem dX3_findPairs_16 : decode cX3_findPairs 16 = .ok (.iload_n 3, 1) := by decide +kernel
theorem dX3_findPairs_17 : decode cX3_findPairs 17 = .ok (.iload_n 2, 1) := by decide +kernel
theorem dX3_findPairs_18 : decode cX3_findPairs 18 = .ok (.if_icmp .ge 21, 3) := by decide +kernel
theorem dX3_findPairs_21 : decode cX3_findPairs 21 = .ok (.aload_n 0, 1) := by decide +kernel
theorem dX3_findPairs_22 : decode cX3_findPairs 22 = .ok (.getfield 11, 3) := by decide +kernel
theorem dX3_findPairs_25 : decode cX3_findPairs 25 = .ok (.iload_n 3, 1) := by decide +kernel
theorem dX3_findPairs_26 : decode cX3_findPairs 26 = .ok (.aload_n 0, 1) := by decide +kernel
theorem dX3_findPairs_27 : decode cX3_findPairs 27 = .ok (.aload_n 1, 1) := by decide +kernel
theorem dX3_findPairs_28 : decode cX3_findPairs 28 = .ok (.iload_n 3, 1) := by decide +kernel
theorem dX3_findPairs_29 : decode cX3_findPairs 29 = .ok (.invokevirtual 64, 3) := by decide +kernel
theorem dX3_findPairs_32 : decode cX3_findPairs 32 = .ok (.lastore, 1) := by decide +kernel
theorem dX3_findPairs_33 : decode cX3_findPairs 33 = .ok (.iinc 3 1, 3) := by decide +kernel
theorem dX3_findPairs_36 : decode cX3_findPairs 36 = .ok (.goto (-20), 3) := by decide +kernel
theorem dX3_findPairs_39 : decode cX3_findPairs 39 = .ok (.aload_n 0, 1) := by decide +kernel
theorem dX3_findPairs_40 : decode cX3_findPairs 40 = .ok (.aload_n 0, 1) := by decide +kernel
theorem dX3_findPairs_41 : decode cX3_findPairs 41 = .ok (.getfield 11, 3) := by decide +kernel
theorem dX3_findPairs_44 : decode cX3_findPairs 44 = .ok (.iload_n 2, 1) := by decide +kernel
theorem dX3_findPairs_45 : decode cX3_findPairs 45 = .ok (.iconst 1, 1) := by decide +kernel
theorem dX3_findPairs_46 : decode cX3_findPairs 46 = .ok (.isub, 1) := by decide +kernel
theorem dX3_findPairs_47 : decode cX3_findPairs 47 = .ok (.laload, 1) := by decide +kernel
theorem dX3_findPairs_48 : decode cX3_findPairs 48 = .ok (.putfield 68, 3) := by decide +kernel
theorem dX3_findPairs_51 : decode cX3_findPairs 51 = .ok (.return_, 1) := by decide +kernel
theorem dX3_firstPaired_0 : decode cX3_firstPaired 0 = .ok (.iload_n 2, 1) := by decide +kernel
theorem dX3_firstPaired_1 : decode cX3_firstPaired 1 = .ok (.invokestatic 71, 3) := by decide +kernel
theorem dX3_firstPaired_4 : decode cX3_firstPaired 4 = .ok (.istore_n 3, 1) := by decide +kernel
theorem dX3_firstPaired_5 : decode cX3_firstPaired 5 = .ok (.iload_n 2, 1) := by decide +kernel
theorem dX3_firstPaired_6 : decode cX3_firstPaired 6 = .ok (.iload_n 2, 1) := by decide +kernel
theorem dX3_firstPaired_7 : decode cX3_firstPaired 7 = .ok (.iconst 1, 1) := by decide +kernel
theorem dX3_firstPaired_8 : decode cX3_firstPaired 8 = .ok (.isub, 1) := by decide +kernel
theorem dX3_firstPaired_9 : decode cX3_firstPaired 9 = .ok (.iand, 1) := by decide +kernel
theorem dX3_firstPaired_10 : decode cX3_firstPaired 10 = .ok (.istore 4, 2) := by decide +kernel
theorem dX3_firstPaired_12 : decode cX3_firstPaired 12 = .ok (.aload_n 0, 1) := by decide +kernel
theorem dX3_firstPaired_13 : decode cX3_firstPaired 13 = .ok (.getfield 11, 3) := by decide +kernel
theorem dX3_firstPaired_16 : decode cX3_firstPaired 16 = .ok (.iload 4, 2) := by decide +kernel
theorem dX3_firstPaired_18 : decode cX3_firstPaired 18 = .ok (.laload, 1) := by decide +kernel
theorem dX3_firstPaired_19 : decode cX3_firstPaired 19 = .ok (.lstore 5, 2) := by decide +kernel
theorem dX3_firstPaired_21 : decode cX3_firstPaired 21 = .ok (.iload_n 3, 1) := by decide +kernel
theorem dX3_firstPaired_22 : decode cX3_firstPaired 22 = .ok (.iconst 1, 1) := by decide +kernel
theorem dX3_firstPaired_23 : decode cX3_firstPaired 23 = .ok (.iadd, 1) := by decide +kernel
theorem dX3_firstPaired_24 : decode cX3_firstPaired 24 = .ok (.istore 7, 2) := by decide +kernel
theorem dX3_firstPaired_26 : decode cX3_firstPaired 26 = .ok (.iload 7, 2) := by decide +kernel
theorem dX3_firstPaired_28 : decode cX3_firstPaired 28 = .ok (.aload_n 1, 1) := by decide +kernel
theorem dX3_firstPaired_29 : decode cX3_firstPaired 29 = .ok (.getfield 27, 3) := by decide +kernel
theorem dX3_firstPaired_32 : decode cX3_firstPaired 32 = .ok (.if_icmp .ge 88, 3) := by decide +kernel
theorem dX3_firstPaired_35 : decode cX3_firstPaired 35 = .ok (.aload_n 1, 1) := by decide +kernel
theorem dX3_firstPaired_36 : decode cX3_firstPaired 36 = .ok (.getfield 76, 3) := by decide +kernel
theorem dX3_firstPaired_39 : decode cX3_firstPaired 39 = .ok (.iload_n 3, 1) := by decide +kernel
theorem dX3_firstPaired_40 : decode cX3_firstPaired 40 = .ok (.iaload, 1) := by decide +kernel
theorem dX3_firstPaired_41 : decode cX3_firstPaired 41 = .ok (.aload_n 1, 1) := by decide +kernel
theorem dX3_firstPaired_42 : decode cX3_firstPaired 42 = .ok (.getfield 76, 3) := by decide +kernel
theorem dX3_firstPaired_45 : decode cX3_firstPaired 45 = .ok (.iload 7, 2) := by decide +kernel
theorem dX3_firstPaired_47 : decode cX3_firstPaired 47 = .ok (.iaload, 1) := by decide +kernel
theorem dX3_firstPaired_48 : decode cX3_firstPaired 48 = .ok (.ixor, 1) := by decide +kernel
theorem dX3_firstPaired_49 : decode cX3_firstPaired 49 = .ok (.istore 8, 2) := by decide +kernel
theorem dX3_firstPaired_51 : decode cX3_firstPaired 51 = .ok (.iload 4, 2) := by decide +kernel
theorem dX3_firstPaired_53 : decode cX3_firstPaired 53 = .ok (.iload 7, 2) := by decide +kernel
theorem dX3_firstPaired_55 : decode cX3_firstPaired 55 = .ok (.ishr, 1) := by decide +kernel
theorem dX3_firstPaired_56 : decode cX3_firstPaired 56 = .ok (.iconst 1, 1) := by decide +kernel
theorem dX3_firstPaired_57 : decode cX3_firstPaired 57 = .ok (.iand, 1) := by decide +kernel
theorem dX3_firstPaired_58 : decode cX3_firstPaired 58 = .ok (.iconst 1, 1) := by decide +kernel
theorem dX3_firstPaired_59 : decode cX3_firstPaired 59 = .ok (.if_icmp .ne 55, 3) := by decide +kernel
theorem dX3_firstPaired_62 : decode cX3_firstPaired 62 = .ok (.iload 8, 2) := by decide +kernel
theorem dX3_firstPaired_64 : decode cX3_firstPaired 64 = .ok (.invokestatic 79, 3) := by decide +kernel
theorem dX3_firstPaired_67 : decode cX3_firstPaired 67 = .ok (.iconst 1, 1) := by decide +kernel
theorem dX3_firstPaired_68 : decode cX3_firstPaired 68 = .ok (.if_icmp .ne 46, 3) := by decide +kernel
theorem dX3_firstPaired_71 : decode cX3_firstPaired 71 = .ok (.aload_n 0, 1) := by decide +kernel
theorem dX3_firstPaired_72 : decode cX3_firstPaired 72 = .ok (.getfield 11, 3) := by decide +kernel
theorem dX3_firstPaired_75 : decode cX3_firstPaired 75 = .ok (.iload 4, 2) := by decide +kernel
theorem dX3_firstPaired_77 : decode cX3_firstPaired 77 = .ok (.iconst 1, 1) := by decide +kernel
theorem dX3_firstPaired_78 : decode cX3_firstPaired 78 = .ok (.iload 7, 2) := by decide +kernel
theorem dX3_firstPaired_80 : decode cX3_firstPaired 80 = .ok (.ishl, 1) := by decide +kernel
theorem dX3_firstPaired_81 : decode cX3_firstPaired 81 = .ok (.iconst (-1), 1) := by decide +kernel
theorem dX3_firstPaired_82 : decode cX3_firstPaired 82 = .ok (.ixor, 1) := by decide +kernel
theorem dX3_firstPaired_83 : decode cX3_firstPaired 83 = .ok (.iand, 1) := by decide +kernel
theorem dX3_firstPaired_84 : decode cX3_firstPaired 84 = .ok (.laload, 1) := by decide +kernel
theorem dX3_firstPaired_85 : decode cX3_firstPaired 85 = .ok (.ldc2_w 52, 3) := by decide +kernel
theorem dX3_firstPaired_88 : decode cX3_firstPaired 88 = .ok (.ladd, 1) := by decide +kernel
theorem dX3_firstPaired_89 : decode cX3_firstPaired 89 = .ok (.iload_n 3, 1) := by decide +kernel
theorem dX3_firstPaired_90 : decode cX3_firstPaired 90 = .ok (.iload 7, 2) := by decide +kernel
theorem dX3_firstPaired_92 : decode cX3_firstPaired 92 = .ok (.invokestatic 54, 3) := by decide +kernel
theorem dX3_firstPaired_95 : decode cX3_firstPaired 95 = .ok (.ladd, 1) := by decide +kernel
theorem dX3_firstPaired_96 : decode cX3_firstPaired 96 = .ok (.iload 7, 2) := by decide +kernel
theorem dX3_firstPaired_98 : decode cX3_firstPaired 98 = .ok (.iload_n 3, 1) := by decide +kernel
theorem dX3_firstPaired_99 : decode cX3_firstPaired 99 = .ok (.invokestatic 54, 3) := by decide +kernel
theorem dX3_firstPaired_102 : decode cX3_firstPaired 102 = .ok (.ladd, 1) := by decide +kernel
theorem dX3_firstPaired_103 : decode cX3_firstPaired 103 = .ok (.lstore 9, 2) := by decide +kernel
theorem dX3_firstPaired_105 : decode cX3_firstPaired 105 = .ok (.lload 5, 2) := by decide +kernel
theorem dX3_firstPaired_107 : decode cX3_firstPaired 107 = .ok (.lload 9, 2) := by decide +kernel
theorem dX3_firstPaired_109 : decode cX3_firstPaired 109 = .ok (.invokestatic 58, 3) := by decide +kernel
theorem dX3_firstPaired_112 : decode cX3_firstPaired 112 = .ok (.lstore 5, 2) := by decide +kernel
theorem dX3_firstPaired_114 : decode cX3_firstPaired 114 = .ok (.iinc 7 1, 3) := by decide +kernel
theorem dX3_firstPaired_117 : decode cX3_firstPaired 117 = .ok (.goto (-91), 3) := by decide +kernel
theorem dX3_firstPaired_120 : decode cX3_firstPaired 120 = .ok (.lload 5, 2) := by decide +kernel
theorem dX3_firstPaired_122 : decode cX3_firstPaired 122 = .ok (.lreturn, 1) := by decide +kernel
theorem dX4_init_0 : decode cX4_init 0 = .ok (.aload_n 0, 1) := by decide +kernel
theorem dX4_init_1 : decode cX4_init 1 = .ok (.invokespecial 5, 3) := by decide +kernel
theorem dX4_init_4 : decode cX4_init 4 = .ok (.aload_n 0, 1) := by decide +kernel
theorem dX4_init_5 : decode cX4_init 5 = .ok (.bipush 40, 2) := by decide +kernel
theorem dX4_init_7 : decode cX4_init 7 = .ok (.newarray .int, 2) := by decide +kernel
theorem dX4_init_9 : decode cX4_init 9 = .ok (.putfield 11, 3) := by decide +kernel
theorem dX4_init_12 : decode cX4_init 12 = .ok (.aload_n 0, 1) := by decide +kernel
theorem dX4_init_13 : decode cX4_init 13 = .ok (.bipush 52, 2) := by decide +kernel
theorem dX4_init_15 : decode cX4_init 15 = .ok (.newarray .int, 2) := by decide +kernel
theorem dX4_init_17 : decode cX4_init 17 = .ok (.putfield 15, 3) := by decide +kernel
theorem dX4_init_20 : decode cX4_init 20 = .ok (.aload_n 0, 1) := by decide +kernel
theorem dX4_init_21 : decode cX4_init 21 = .ok (.bipush 8, 2) := by decide +kernel
theorem dX4_init_23 : decode cX4_init 23 = .ok (.newarray .int, 2) := by decide +kernel
theorem dX4_init_25 : decode cX4_init 25 = .ok (.putfield 18, 3) := by decide +kernel
theorem dX4_init_28 : decode cX4_init 28 = .ok (.aload_n 0, 1) := by decide +kernel
theorem dX4_init_29 : decode cX4_init 29 = .ok (.bipush 8, 2) := by decide +kernel
theorem dX4_init_31 : decode cX4_init 31 = .ok (.newarray .int, 2) := by decide +kernel
theorem dX4_init_33 : decode cX4_init 33 = .ok (.putfield 21, 3) := by decide +kernel
theorem dX4_init_36 : decode cX4_init 36 = .ok (.aload_n 0, 1) := by decide +kernel
theorem dX4_init_37 : decode cX4_init 37 = .ok (.bipush 40, 2) := by decide +kernel
theorem dX4_init_39 : decode cX4_init 39 = .ok (.newarray .int, 2) := by decide +kernel
theorem dX4_init_41 : decode cX4_init 41 = .ok (.putfield 24, 3) := by decide +kernel
theorem dX4_init_44 : decode cX4_init 44 = .ok (.aload_n 0, 1) := by decide +kernel
theorem dX4_init_45 : decode cX4_init 45 = .ok (.bipush 40, 2) := by decide +kernel
theorem dX4_init_47 : decode cX4_init 47 = .ok (.newarray .int, 2) := by decide +kernel
theorem dX4_init_49 : decode cX4_init 49 = .ok (.putfield 27, 3) := by decide +kernel
theorem dX4_init_52 : decode cX4_init 52 = .ok (.aload_n 0, 1) := by decide +kernel
theorem dX4_init_53 : decode cX4_init 53 = .ok (.bipush 40, 2) := by decide +kernel
theorem dX4_init_55 : decode cX4_init 55 = .ok (.newarray .int, 2) := by decide +kernel
theorem dX4_init_57 : decode cX4_init 57 = .ok (.putfield 30, 3) := by decide +kernel
theorem dX4_init_60 : decode cX4_init 60 = .ok (.aload_n 0, 1) := by decide +kernel
theorem dX4_init_61 : decode cX4_init 61 = .ok (.bipush 40, 2) := by decide +kernel
theorem dX4_init_63 : decode cX4_init 63 = .ok (.newarray .int, 2) := by decide +kernel
theorem dX4_init_65 : decode cX4_init 65 = .ok (.putfield 33, 3) := by decide +kernel
theorem dX4_init_68 : decode cX4_init 68 = .ok (.aload_n 0, 1) := by decide +kernel
theorem dX4_init_69 : decode cX4_init 69 = .ok (.bipush 8, 2) := by decide +kernel
theorem dX4_init_71 : decode cX4_init 71 = .ok (.newarray .int, 2) := by decide +kernel
theorem dX4_init_73 : decode cX4_init 73 = .ok (.putfield 36, 3) := by decide +kernel
theorem dX4_init_76 : decode cX4_init 76 = .ok (.aload_n 0, 1) := by decide +kernel
theorem dX4_init_77 : decode cX4_init 77 = .ok (.bipush 8, 2) := by decide +kernel
theorem dX4_init_79 : decode cX4_init 79 = .ok (.newarray .int, 2) := by decide +kernel
theorem dX4_init_81 : decode cX4_init 81 = .ok (.putfield 39, 3) := by decide +kernel
theorem dX4_init_84 : decode cX4_init 84 = .ok (.aload_n 0, 1) := by decide +kernel
theorem dX4_init_85 : decode cX4_init 85 = .ok (.aload_n 1, 1) := by decide +kernel
theorem dX4_init_86 : decode cX4_init 86 = .ok (.putfield 42, 3) := by decide +kernel
theorem dX4_init_89 : decode cX4_init 89 = .ok (.return_, 1) := by decide +kernel
theorem dX4_load_0 : decode cX4_load 0 = .ok (.aload_n 0, 1) := by decide +kernel
theorem dX4_load_1 : decode cX4_load 1 = .ok (.getfield 11, 3) := by decide +kernel
theorem dX4_load_4 : decode cX4_load 4 = .ok (.iconst 0, 1) := by decide +kernel
theorem dX4_load_5 : decode cX4_load 5 = .ok (.invokestatic 46, 3) := by decide +kernel
theorem dX4_load_8 : decode cX4_load 8 = .ok (.aload_n 0, 1) := by decide +kernel
theorem dX4_load_9 : decode cX4_load 9 = .ok (.iconst 0, 1) := by decide +kernel
theorem dX4_load_10 : decode cX4_load 10 = .ok (.putfield 52, 3) := by decide +kernel
theorem dX4_load_13 : decode cX4_load 13 = .ok (.iconst 0, 1) := by decide +kernel
theorem dX4_load_14 : decode cX4_load 14 = .ok (.istore_n 3, 1) := by decide +kernel
theorem dX4_load_15 : decode cX4_load 15 = .ok (.iload_n 3, 1) := by decide +kernel
theorem dX4_load_16 : decode cX4_load 16 = .ok (.aload_n 0, 1) := by decide +kernel
theorem dX4_load_17 : decode cX4_load 17 = .ok (.getfield 42, 3) := by decide +kernel
theorem dX4_load_20 : decode cX4_load 20 = .ok (.getfield 56, 3) := by decide +kernel
theorem dX4_load_23 : decode cX4_load 23 = .ok (.getfield 62, 3) := by decide +kernel
theorem dX4_load_26 : decode cX4_load 26 = .ok (.if_icmp .ge 50, 3) := by decide +kernel
theorem dX4_load_29 : decode cX4_load 29 = .ok (.aload_n 0, 1) := by decide +kernel
theorem dX4_load_30 : decode cX4_load 30 = .ok (.getfield 18, 3) := by decide +kernel
theorem dX4_load_33 : decode cX4_load 33 = .ok (.iload_n 3, 1) := by decide +kernel
theorem dX4_load_34 : decode cX4_load 34 = .ok (.aload_n 0, 1) := by decide +kernel
theorem dX4_load_35 : decode cX4_load 35 = .ok (.getfield 42, 3) := by decide +kernel
theorem dX4_load_38 : decode cX4_load 38 = .ok (.iload_n 3, 1) := by decide +kernel
theorem dX4_load_39 : decode cX4_load 39 = .ok (.invokevirtual 67, 3) := by decide +kernel
theorem dX4_load_42 : decode cX4_load 42 = .ok (.iastore, 1) := by decide +kernel
theorem dX4_load_43 : decode cX4_load 43 = .ok (.aload_n 0, 1) := by decide +kernel
theorem dX4_load_44 : decode cX4_load 44 = .ok (.getfield 21, 3) := by decide +kernel
theorem dX4_load_47 : decode cX4_load 47 = .ok (.iload_n 3, 1) := by decide +kernel
theorem dX4_load_48 : decode cX4_load 48 = .ok (.aload_n 0, 1) := by decide +kernel
theorem dX4_load_49 : decode cX4_load 49 = .ok (.getfield 42, 3) := by decide +kernel
theorem dX4_load_52 : decode cX4_load 52 = .ok (.iload_n 3, 1) := by decide +kernel
theorem dX4_load_53 : decode cX4_load 53 = .ok (.invokevirtual 71, 3) := by decide +kernel
theorem dX4_load_56 : decode cX4_load 56 = .ok (.ifCond .eq 12, 3) := by decide +kernel
theorem dX4_load_59 : decode cX4_load 59 = .ok (.aload_n 0, 1) := by decide +kernel
theorem dX4_load_60 : decode cX4_load 60 = .ok (.getfield 18, 3) := by decide +kernel
theorem dX4_load_63 : decode cX4_load 63 = .ok (.iload_n 3, 1) := by decide +kernel
theorem dX4_load_64 : decode cX4_load 64 = .ok (.iaload, 1) := by decide +kernel
theorem dX4_load_65 : decode cX4_load 65 = .ok (.goto 4, 3) := by decide +kernel
theorem dX4_load_68 : decode cX4_load 68 = .ok (.iconst 0, 1) := by decide +kernel
theorem dX4_load_69 : decode cX4_load 69 = .ok (.iastore, 1) := by decide +kernel
theorem dX4_load_70 : decode cX4_load 70 = .ok (.iinc 3 1, 3) := by decide +kernel
theorem dX4_load_73 : decode cX4_load 73 = .ok (.goto (-58), 3) := by decide +kernel
theorem dX4_load_76 : decode cX4_load 76 = .ok (.iconst 0, 1) := by decide +kernel
theorem dX4_load_77 : decode cX4_load 77 = .ok (.istore_n 3, 1) := by decide +kernel
theorem dX4_load_78 : decode cX4_load 78 = .ok (.iload_n 3, 1) := by decide +kernel
theorem dX4_load_79 : decode cX4_load 79 = .ok (.aload_n 1, 1) := by decide +kernel
theorem dX4_load_80 : decode cX4_load 80 = .ok (.getfield 75, 3) := by decide +kernel
theorem dX4_load_83 : decode cX4_load 83 = .ok (.if_icmp .ge 25, 3) := by decide +kernel
theorem dX4_load_86 : decode cX4_load 86 = .ok (.aload_n 0, 1) := by decide +kernel
theorem dX4_load_87 : decode cX4_load 87 = .ok (.aload_n 1, 1) := by decide +kernel
theorem dX4_load_88 : decode cX4_load 88 = .ok (.getfield 80, 3) := by decide +kernel
theorem dX4_load_91 : decode cX4_load 91 = .ok (.iload_n 3, 1) := by decide +kernel
theorem dX4_load_92 : decode cX4_load 92 = .ok (.iaload, 1) := by decide +kernel
theorem dX4_load_93 : decode cX4_load 93 = .ok (.aload_n 1, 1) := by decide +kernel
theorem dX4_load_94 : decode cX4_load 94 = .ok (.getfield 83, 3) := by decide +kernel
theorem dX4_load_97 : decode cX4_load 97 = .ok (.iload_n 3, 1) := by decide +kernel
theorem dX4_load_98 : decode cX4_load 98 = .ok (.iaload, 1) := by decide +kernel
theorem dX4_load_99 : decode cX4_load 99 = .ok (.invokevirtual 86, 3) := by decide +kernel
theorem dX4_load_102 : decode cX4_load 102 = .ok (.iinc 3 1, 3) := by decide +kernel
theorem dX4_load_105 : decode cX4_load 105 = .ok (.goto (-27), 3) := by decide +kernel
theorem dX4_load_108 : decode cX4_load 108 = .ok (.iconst 0, 1) := by decide +kernel
theorem dX4_load_109 : decode cX4_load 109 = .ok (.istore_n 3, 1) := by decide +kernel
theorem dX4_load_110 : decode cX4_load 110 = .ok (.iload_n 3, 1) := by decide +kernel
theorem dX4_load_111 : decode cX4_load 111 = .ok (.aload_n 2, 1) := by decide +kernel
theorem dX4_load_112 : decode cX4_load 112 = .ok (.getfield 75, 3) := by decide +kernel
theorem dX4_load_115 : decode cX4_load 115 = .ok (.if_icmp .ge 26, 3) := by decide +kernel
theorem dX4_load_118 : decode cX4_load 118 = .ok (.aload_n 0, 1) := by decide +kernel
theorem dX4_load_119 : decode cX4_load 119 = .ok (.aload_n 2, 1) := by decide +kernel
theorem dX4_load_120 : decode cX4_load 120 = .ok (.getfield 80, 3) := by decide +kernel
theorem dX4_load_123 : decode cX4_load 123 = .ok (.iload_n 3, 1) := by decide +kernel
theorem dX4_load_124 : decode cX4_load 124 = .ok (.iaload, 1) := by decide +kernel
theorem dX4_load_125 : decode cX4_load 125 = .ok (.aload_n 2, 1) := by decide +kernel
theorem dX4_load_126 : decode cX4_load 126 = .ok (.getfield 83, 3) := by decide +kernel
theorem dX4_load_129 : decode cX4_load 129 = .ok (.iload_n 3, 1) := by decide +kernel
theorem dX4_load_130 : decode cX4_load 130 = .ok (.iaload, 1) := by decide +kernel
theorem dX4_load_131 : decode cX4_load 131 = .ok (.iload_n 3, 1) := by decide +kernel
theorem dX4_load_132 : decode cX4_load 132 = .ok (.invokevirtual 90, 3) := by decide +kernel
theorem dX4_load_135 : decode cX4_load 135 = .ok (.iinc 3 1, 3) := by decide +kernel
theorem dX4_load_138 : decode cX4_load 138 = .ok (.goto (-28), 3) := by decide +kernel
theorem dX4_load_141 : decode cX4_load 141 = .ok (.return_, 1) := by decide +kernel
theorem dX4_hand_0 : decode cX4_hand 0 = .ok (.iload_n 2, 1) := by decide +kernel
theorem dX4_hand_1 : decode cX4_hand 1 = .ok (.aload_n 0, 1) := by decide +kernel
theorem dX4_hand_2 : decode cX4_hand 2 = .ok (.getfield 42, 3) := by decide +kernel
theorem dX4_hand_5 : decode cX4_hand 5 = .ok (.getfield 94, 3) := by decide +kernel
theorem dX4_hand_8 : decode cX4_hand 8 = .ok (.getfield 62, 3) := by decide +kernel
theorem dX4_hand_11 : decode cX4_hand 11 = .ok (.if_icmp .ge 15, 3) := by decide +kernel
theorem dX4_hand_14 : decode cX4_hand 14 = .ok (.aload_n 0, 1) := by decide +kernel
theorem dX4_hand_15 : decode cX4_hand 15 = .ok (.getfield 11, 3) := by decide +kernel
theorem dX4_hand_18 : decode cX4_hand 18 = .ok (.iload_n 1, 1) := by decide +kernel
theorem dX4_hand_19 : decode cX4_hand 19 = .ok (.dup2, 1) := by decide +kernel
theorem dX4_hand_20 : decode cX4_hand 20 = .ok (.iaload, 1) := by decide +kernel
theorem dX4_hand_21 : decode cX4_hand 21 = .ok (.iconst 1, 1) := by decide +kernel
theorem dX4_hand_22 : decode cX4_hand 22 = .ok (.iload_n 2, 1) := by decide +kernel
theorem dX4_hand_23 : decode cX4_hand 23 = .ok (.ishl, 1) := by decide +kernel
theorem dX4_hand_24 : decode cX4_hand 24 = .ok (.ior, 1) := by decide +kernel
theorem dX4_hand_25 : decode cX4_hand 25 = .ok (.iastore, 1) := by decide +kernel
theorem dX4_hand_26 : decode cX4_hand 26 = .ok (.return_, 1) := by decide +kernel
theorem dX4_come_0 : decode cX4_come 0 = .ok (.iload_n 2, 1) := by decide +kernel
theorem dX4_come_1 : decode cX4_come 1 = .ok (.aload_n 0, 1) := by decide +kernel
theorem dX4_come_2 : decode cX4_come 2 = .ok (.getfield 42, 3) := by decide +kernel
theorem dX4_come_5 : decode cX4_come 5 = .ok (.getfield 56, 3) := by decide +kernel
theorem dX4_come_8 : decode cX4_come 8 = .ok (.getfield 62, 3) := by decide +kernel
theorem dX4_come_11 : decode cX4_come 11 = .ok (.if_icmp .ge 15, 3) := by decide +kernel
theorem dX4_come_14 : decode cX4_come 14 = .ok (.aload_n 0, 1) := by decide +kernel
theorem dX4_come_15 : decode cX4_come 15 = .ok (.getfield 52, 3) := by decide +kernel
theorem dX4_come_18 : decode cX4_come 18 = .ok (.aload_n 0, 1) := by decide +kernel
theorem dX4_come_19 : decode cX4_come 19 = .ok (.getfield 15, 3) := by decide +kernel
theorem dX4_come_22 : decode cX4_come 22 = .ok (.arraylength, 1) := by decide +kernel
theorem dX4_come_23 : decode cX4_come 23 = .ok (.if_icmp .lt 4, 3) := by decide +kernel
theorem dX4_come_26 : decode cX4_come 26 = .ok (.return_, 1) := by decide +kernel
theorem dX4_come_27 : decode cX4_come 27 = .ok (.aload_n 0, 1) := by decide +kernel
theorem dX4_come_28 : decode cX4_come 28 = .ok (.getfield 42, 3) := by decide +kernel
theorem dX4_come_31 : decode cX4_come 31 = .ok (.getfield 56, 3) := by decide +kernel
theorem dX4_come_34 : decode cX4_come 34 = .ok (.getfield 97, 3) := by decide +kernel
theorem dX4_come_37 : decode cX4_come 37 = .ok (.iload_n 2, 1) := by decide +kernel
theorem dX4_come_38 : decode cX4_come 38 = .ok (.iaload, 1) := by decide +kernel
theorem dX4_come_39 : decode cX4_come 39 = .ok (.istore 4, 2) := by decide +kernel
theorem dX4_come_41 : decode cX4_come 41 = .ok (.iload_n 1, 1) := by decide +kernel
theorem dX4_come_42 : decode cX4_come 42 = .ok (.sipush 5120, 3) := by decide +kernel
theorem dX4_come_45 : decode cX4_come 45 = .ok (.imul, 1) := by decide +kernel
theorem dX4_come_46 : decode cX4_come 46 = .ok (.iload 4, 2) := by decide +kernel
theorem dX4_come_48 : decode cX4_come 48 = .ok (.sipush 512, 3) := by decide +kernel
theorem dX4_come_51 : decode cX4_come 51 = .ok (.imul, 1) := by decide +kernel
theorem dX4_come_52 : decode cX4_come 52 = .ok (.iadd, 1) := by decide +kernel
theorem dX4_come_53 : decode cX4_come 53 = .ok (.iload_n 3, 1) := by decide +kernel
theorem dX4_come_54 : decode cX4_come 54 = .ok (.bipush 8, 2) := by decide +kernel
theorem dX4_come_56 : decode cX4_come 56 = .ok (.imul, 1) := by decide +kernel
theorem dX4_come_57 : decode cX4_come 57 = .ok (.iadd, 1) := by decide +kernel
theorem dX4_come_58 : decode cX4_come 58 = .ok (.iload_n 2, 1) := by decide +kernel
theorem dX4_come_59 : decode cX4_come 59 = .ok (.iadd, 1) := by decide +kernel
theorem dX4_come_60 : decode cX4_come 60 = .ok (.istore 5, 2) := by decide +kernel
theorem dX4_come_62 : decode cX4_come 62 = .ok (.aload_n 0, 1) := by decide +kernel
theorem dX4_come_63 : decode cX4_come 63 = .ok (.getfield 52, 3) := by decide +kernel
theorem dX4_come_66 : decode cX4_come 66 = .ok (.istore 6, 2) := by decide +kernel
theorem dX4_come_68 : decode cX4_come 68 = .ok (.iload 6, 2) := by decide +kernel
theorem dX4_come_70 : decode cX4_come 70 = .ok (.ifCond .le 39, 3) := by decide +kernel
theorem dX4_come_73 : decode cX4_come 73 = .ok (.aload_n 0, 1) := by decide +kernel
theorem dX4_come_74 : decode cX4_come 74 = .ok (.getfield 15, 3) := by decide +kernel
theorem dX4_come_77 : decode cX4_come 77 = .ok (.iload 6, 2) := by decide +kernel
theorem dX4_come_79 : decode cX4_come 79 = .ok (.iconst 1, 1) := by decide +kernel
theorem dX4_come_80 : decode cX4_come 80 = .ok (.isub, 1) := by decide +kernel
theorem dX4_come_81 : decode cX4_come 81 = .ok (.iaload, 1) := by decide +kernel
theorem dX4_come_82 : decode cX4_come 82 = .ok (.iload 5, 2) := by decide +kernel
theorem dX4_come_84 : decode cX4_come 84 = .ok (.if_icmp .le 25, 3) := by decide +kernel
theorem dX4_come_87 : decode cX4_come 87 = .ok (.aload_n 0, 1) := by decide +kernel
theorem dX4_come_88 : decode cX4_come 88 = .ok (.getfield 15, 3) := by decide +kernel
theorem dX4_come_91 : decode cX4_come 91 = .ok (.iload 6, 2) := by decide +kernel
theorem dX4_come_93 : decode cX4_come 93 = .ok (.aload_n 0, 1) := by decide +kernel
theorem dX4_come_94 : decode cX4_come 94 = .ok (.getfield 15, 3) := by decide +kernel
theorem dX4_come_97 : decode cX4_come 97 = .ok (.iload 6, 2) := by decide +kernel
theorem dX4_come_99 : decode cX4_come 99 = .ok (.iconst 1, 1) := by decide +kernel
theorem dX4_come_100 : decode cX4_come 100 = .ok (.isub, 1) := by decide +kernel
theorem dX4_come_101 : decode cX4_come 101 = .ok (.iaload, 1) := by decide +kernel
theorem dX4_come_102 : decode cX4_come 102 = .ok (.iastore, 1) := by decide +kernel
theorem dX4_come_103 : decode cX4_come 103 = .ok (.iinc 6 (-1), 3) := by decide +kernel
theorem dX4_come_106 : decode cX4_come 106 = .ok (.goto (-38), 3) := by decide +kernel
theorem dX4_come_109 : decode cX4_come 109 = .ok (.aload_n 0, 1) := by decide +kernel
theorem dX4_come_110 : decode cX4_come 110 = .ok (.getfield 15, 3) := by decide +kernel
theorem dX4_come_113 : decode cX4_come 113 = .ok (.iload 6, 2) := by decide +kernel
theorem dX4_come_115 : decode cX4_come 115 = .ok (.iload 5, 2) := by decide +kernel
theorem dX4_come_117 : decode cX4_come 117 = .ok (.iastore, 1) := by decide +kernel
theorem dX4_come_118 : decode cX4_come 118 = .ok (.aload_n 0, 1) := by decide +kernel
theorem dX4_come_119 : decode cX4_come 119 = .ok (.dup, 1) := by decide +kernel
theorem dX4_come_120 : decode cX4_come 120 = .ok (.getfield 52, 3) := by decide +kernel
theorem dX4_come_123 : decode cX4_come 123 = .ok (.iconst 1, 1) := by decide +kernel
theorem dX4_come_124 : decode cX4_come 124 = .ok (.iadd, 1) := by decide +kernel
theorem dX4_come_125 : decode cX4_come 125 = .ok (.putfield 52, 3) := by decide +kernel
theorem dX4_come_128 : decode cX4_come 128 = .ok (.return_, 1) := by decide +kernel
theorem dX4_play_0 : decode cX4_play 0 = .ok (.aload_n 0, 1) := by decide +kernel
theorem dX4_play_1 : decode cX4_play 1 = .ok (.invokevirtual 100, 3) := by decide +kernel
theorem dX4_play_4 : decode cX4_play 4 = .ok (.iconst 0, 1) := by decide +kernel
theorem dX4_play_5 : decode cX4_play 5 = .ok (.istore_n 2, 1) := by decide +kernel
theorem dX4_play_6 : decode cX4_play 6 = .ok (.iconst 0, 1) := by decide +kernel
theorem dX4_play_7 : decode cX4_play 7 = .ok (.istore_n 3, 1) := by decide +kernel
theorem dX4_play_8 : decode cX4_play 8 = .ok (.iload_n 3, 1) := by decide +kernel
theorem dX4_play_9 : decode cX4_play 9 = .ok (.iload_n 1, 1) := by decide +kernel
theorem dX4_play_10 : decode cX4_play 10 = .ok (.if_icmp .gt 94, 3) := by decide +kernel
theorem dX4_play_13 : decode cX4_play 13 = .ok (.iload_n 3, 1) := by decide +kernel
theorem dX4_play_14 : decode cX4_play 14 = .ok (.bipush 40, 2) := by decide +kernel
theorem dX4_play_16 : decode cX4_play 16 = .ok (.if_icmp .ge 88, 3) := by decide +kernel
theorem dX4_play_19 : decode cX4_play 19 = .ok (.aload_n 0, 1) := by decide +kernel
theorem dX4_play_20 : decode cX4_play 20 = .ok (.iload_n 3, 1) := by decide +kernel
theorem dX4_play_21 : decode cX4_play 21 = .ok (.invokevirtual 103, 3) := by decide +kernel
theorem dX4_play_24 : decode cX4_play 24 = .ok (.iload_n 2, 1) := by decide +kernel
theorem dX4_play_25 : decode cX4_play 25 = .ok (.aload_n 0, 1) := by decide +kernel
theorem dX4_play_26 : decode cX4_play 26 = .ok (.getfield 52, 3) := by decide +kernel
theorem dX4_play_29 : decode cX4_play 29 = .ok (.if_icmp .ge 34, 3) := by decide +kernel
theorem dX4_play_32 : decode cX4_play 32 = .ok (.aload_n 0, 1) := by decide +kernel
theorem dX4_play_33 : decode cX4_play 33 = .ok (.getfield 15, 3) := by decide +kernel
theorem dX4_play_36 : decode cX4_play 36 = .ok (.iload_n 2, 1) := by decide +kernel
theorem dX4_play_37 : decode cX4_play 37 = .ok (.iaload, 1) := by decide +kernel
theorem dX4_play_38 : decode cX4_play 38 = .ok (.sipush 5120, 3) := by decide +kernel
theorem dX4_play_41 : decode cX4_play 41 = .ok (.idiv, 1) := by decide +kernel
theorem dX4_play_42 : decode cX4_play 42 = .ok (.iload_n 3, 1) := by decide +kernel
theorem dX4_play_43 : decode cX4_play 43 = .ok (.if_icmp .ne 20, 3) := by decide +kernel
theorem dX4_play_46 : decode cX4_play 46 = .ok (.aload_n 0, 1) := by decide +kernel
theorem dX4_play_47 : decode cX4_play 47 = .ok (.iload_n 3, 1) := by decide +kernel
theorem dX4_play_48 : decode cX4_play 48 = .ok (.aload_n 0, 1) := by decide +kernel
theorem dX4_play_49 : decode cX4_play 49 = .ok (.getfield 15, 3) := by decide +kernel
theorem dX4_play_52 : decode cX4_play 52 = .ok (.iload_n 2, 1) := by decide +kernel
theorem dX4_play_53 : decode cX4_play 53 = .ok (.iaload, 1) := by decide +kernel
theorem dX4_play_54 : decode cX4_play 54 = .ok (.invokevirtual 107, 3) := by decide +kernel
theorem dX4_play_57 : decode cX4_play 57 = .ok (.iinc 2 1, 3) := by decide +kernel
theorem dX4_play_60 : decode cX4_play 60 = .ok (.goto (-36), 3) := by decide +kernel
theorem dX4_play_63 : decode cX4_play 63 = .ok (.aload_n 0, 1) := by decide +kernel
theorem dX4_play_64 : decode cX4_play 64 = .ok (.iload_n 3, 1) := by decide +kernel
theorem dX4_play_65 : decode cX4_play 65 = .ok (.invokevirtual 110, 3) := by decide +kernel
theorem dX4_play_68 : decode cX4_play 68 = .ok (.aload_n 0, 1) := by decide +kernel
theorem dX4_play_69 : decode cX4_play 69 = .ok (.getfield 27, 3) := by decide +kernel
theorem dX4_play_72 : decode cX4_play 72 = .ok (.iload_n 3, 1) := by decide +kernel
theorem dX4_play_73 : decode cX4_play 73 = .ok (.aload_n 0, 1) := by decide +kernel
theorem dX4_play_74 : decode cX4_play 74 = .ok (.getfield 113, 3) := by decide +kernel
theorem dX4_play_77 : decode cX4_play 77 = .ok (.iastore, 1) := by decide +kernel
theorem dX4_play_78 : decode cX4_play 78 = .ok (.aload_n 0, 1) := by decide +kernel
theorem dX4_play_79 : decode cX4_play 79 = .ok (.getfield 30, 3) := by decide +kernel
theorem dX4_play_82 : decode cX4_play 82 = .ok (.iload_n 3, 1) := by decide +kernel
theorem dX4_play_83 : decode cX4_play 83 = .ok (.aload_n 0, 1) := by decide +kernel
theorem dX4_play_84 : decode cX4_play 84 = .ok (.getfield 116, 3) := by decide +kernel
theorem dX4_play_87 : decode cX4_play 87 = .ok (.iastore, 1) := by decide +kernel
theorem dX4_play_88 : decode cX4_play 88 = .ok (.aload_n 0, 1) := by decide +kernel
theorem dX4_play_89 : decode cX4_play 89 = .ok (.getfield 33, 3) := by decide +kernel
theorem dX4_play_92 : decode cX4_play 92 = .ok (.iload_n 3, 1) := by decide +kernel
theorem dX4_play_93 : decode cX4_play 93 = .ok (.aload_n 0, 1) := by decide +kernel
theorem dX4_play_94 : decode cX4_play 94 = .ok (.getfield 119, 3) := by decide +kernel
theorem dX4_play_97 : decode cX4_play 97 = .ok (.iastore, 1) := by decide +kernel
theorem dX4_play_98 : decode cX4_play 98 = .ok (.iinc 3 1, 3) := by decide +kernel
theorem dX4_play_101 : decode cX4_play 101 = .ok (.goto (-93), 3) := by decide +kernel
theorem dX4_play_104 : decode cX4_play 104 = .ok (.return_, 1) := by decide +kernel
theorem dX4_begin_0 : decode cX4_begin 0 = .ok (.aload_n 0, 1) := by decide +kernel
theorem dX4_begin_1 : decode cX4_begin 1 = .ok (.getfield 36, 3) := by decide +kernel
theorem dX4_begin_4 : decode cX4_begin 4 = .ok (.iconst (-1), 1) := by decide +kernel
theorem dX4_begin_5 : decode cX4_begin 5 = .ok (.invokestatic 46, 3) := by decide +kernel
theorem dX4_begin_8 : decode cX4_begin 8 = .ok (.aload_n 0, 1) := by decide +kernel
theorem dX4_begin_9 : decode cX4_begin 9 = .ok (.getfield 39, 3) := by decide +kernel
theorem dX4_begin_12 : decode cX4_begin 12 = .ok (.iconst (-1), 1) := by decide +kernel
theorem dX4_begin_13 : decode cX4_begin 13 = .ok (.invokestatic 46, 3) := by decide +kernel
theorem dX4_begin_16 : decode cX4_begin 16 = .ok (.aload_n 0, 1) := by decide +kernel
theorem dX4_begin_17 : decode cX4_begin 17 = .ok (.iconst 0, 1) := by decide +kernel
theorem dX4_begin_18 : decode cX4_begin 18 = .ok (.putfield 113, 3) := by decide +kernel
theorem dX4_begin_21 : decode cX4_begin 21 = .ok (.aload_n 0, 1) := by decide +kernel
theorem dX4_begin_22 : decode cX4_begin 22 = .ok (.iconst 0, 1) := by decide +kernel
theorem dX4_begin_23 : decode cX4_begin 23 = .ok (.putfield 116, 3) := by decide +kernel
theorem dX4_begin_26 : decode cX4_begin 26 = .ok (.aload_n 0, 1) := by decide +kernel
theorem dX4_begin_27 : decode cX4_begin 27 = .ok (.iconst 0, 1) := by decide +kernel
theorem dX4_begin_28 : decode cX4_begin 28 = .ok (.putfield 119, 3) := by decide +kernel
theorem dX4_begin_31 : decode cX4_begin 31 = .ok (.aload_n 0, 1) := by decide +kernel
theorem dX4_begin_32 : decode cX4_begin 32 = .ok (.lconst 0, 1) := by decide +kernel
theorem dX4_begin_33 : decode cX4_begin 33 = .ok (.putfield 122, 3) := by decide +kernel
theorem dX4_begin_36 : decode cX4_begin 36 = .ok (.aload_n 0, 1) := by decide +kernel
theorem dX4_begin_37 : decode cX4_begin 37 = .ok (.iconst (-1), 1) := by decide +kernel
theorem dX4_begin_38 : decode cX4_begin 38 = .ok (.putfield 126, 3) := by decide +kernel
theorem dX4_begin_41 : decode cX4_begin 41 = .ok (.return_, 1) := by decide +kernel
theorem dX4_bringIn_0 : decode cX4_bringIn 0 = .ok (.aload_n 0, 1) := by decide +kernel
theorem dX4_bringIn_1 : decode cX4_bringIn 1 = .ok (.getfield 113, 3) := by decide +kernel
theorem dX4_bringIn_4 : decode cX4_bringIn 4 = .ok (.aload_n 0, 1) := by decide +kernel
theorem dX4_bringIn_5 : decode cX4_bringIn 5 = .ok (.getfield 116, 3) := by decide +kernel
theorem dX4_bringIn_8 : decode cX4_bringIn 8 = .ok (.ior, 1) := by decide +kernel
theorem dX4_bringIn_9 : decode cX4_bringIn 9 = .ok (.aload_n 0, 1) := by decide +kernel
theorem dX4_bringIn_10 : decode cX4_bringIn 10 = .ok (.getfield 119, 3) := by decide +kernel
theorem dX4_bringIn_13 : decode cX4_bringIn 13 = .ok (.ior, 1) := by decide +kernel
theorem dX4_bringIn_14 : decode cX4_bringIn 14 = .ok (.istore_n 2, 1) := by decide +kernel
theorem dX4_bringIn_15 : decode cX4_bringIn 15 = .ok (.aload_n 0, 1) := by decide +kernel
theorem dX4_bringIn_16 : decode cX4_bringIn 16 = .ok (.getfield 24, 3) := by decide +kernel
theorem dX4_bringIn_19 : decode cX4_bringIn 19 = .ok (.iload_n 1, 1) := by decide +kernel
theorem dX4_bringIn_20 : decode cX4_bringIn 20 = .ok (.aload_n 0, 1) := by decide +kernel
theorem dX4_bringIn_21 : decode cX4_bringIn 21 = .ok (.getfield 11, 3) := by decide +kernel
theorem dX4_bringIn_24 : decode cX4_bringIn 24 = .ok (.iload_n 1, 1) := by decide +kernel
theorem dX4_bringIn_25 : decode cX4_bringIn 25 = .ok (.iaload, 1) := by decide +kernel
theorem dX4_bringIn_26 : decode cX4_bringIn 26 = .ok (.iload_n 2, 1) := by decide +kernel
theorem dX4_bringIn_27 : decode cX4_bringIn 27 = .ok (.iconst (-1), 1) := by decide +kernel
theorem dX4_bringIn_28 : decode cX4_bringIn 28 = .ok (.ixor, 1) := by decide +kernel
theorem dX4_bringIn_29 : decode cX4_bringIn 29 = .ok (.iand, 1) := by decide +kernel
theorem dX4_bringIn_30 : decode cX4_bringIn 30 = .ok (.iastore, 1) := by decide +kernel
theorem dX4_bringIn_31 : decode cX4_bringIn 31 = .ok (.aload_n 0, 1) := by decide +kernel
theorem dX4_bringIn_32 : decode cX4_bringIn 32 = .ok (.dup, 1) := by decide +kernel
theorem dX4_bringIn_33 : decode cX4_bringIn 33 = .ok (.getfield 113, 3) := by decide +kernel
theorem dX4_bringIn_36 : decode cX4_bringIn 36 = .ok (.aload_n 0, 1) := by decide +kernel
theorem dX4_bringIn_37 : decode cX4_bringIn 37 = .ok (.getfield 24, 3) := by decide +kernel
theorem dX4_bringIn_40 : decode cX4_bringIn 40 = .ok (.iload_n 1, 1) := by decide +kernel
theorem dX4_bringIn_41 : decode cX4_bringIn 41 = .ok (.iaload, 1) := by decide +kernel
theorem dX4_bringIn_42 : decode cX4_bringIn 42 = .ok (.ior, 1) := by decide +kernel
theorem dX4_bringIn_43 : decode cX4_bringIn 43 = .ok (.putfield 113, 3) := by decide +kernel
theorem dX4_bringIn_46 : decode cX4_bringIn 46 = .ok (.return_, 1) := by decide +kernel
theorem dX4_serve_0 : decode cX4_serve 0 = .ok (.iload_n 2, 1) := by decide +kernel
theorem dX4_serve_1 : decode cX4_serve 1 = .ok (.bipush 8, 2) := by decide +kernel
theorem dX4_serve_3 : decode cX4_serve 3 = .ok (.irem, 1) := by decide +kernel
theorem dX4_serve_4 : decode cX4_serve 4 = .ok (.istore_n 3, 1) := by decide +kernel
theorem dX4_serve_5 : decode cX4_serve 5 = .ok (.iload_n 2, 1) := by decide +kernel
theorem dX4_serve_6 : decode cX4_serve 6 = .ok (.sipush 512, 3) := by decide +kernel
theorem dX4_serve_9 : decode cX4_serve 9 = .ok (.irem, 1) := by decide +kernel
theorem dX4_serve_10 : decode cX4_serve 10 = .ok (.bipush 8, 2) := by decide +kernel
theorem dX4_serve_12 : decode cX4_serve 12 = .ok (.idiv, 1) := by decide +kernel
theorem dX4_serve_13 : decode cX4_serve 13 = .ok (.istore 4, 2) := by decide +kernel
theorem dX4_serve_15 : decode cX4_serve 15 = .ok (.aload_n 0, 1) := by decide +kernel
theorem dX4_serve_16 : decode cX4_serve 16 = .ok (.getfield 42, 3) := by decide +kernel
theorem dX4_serve_19 : decode cX4_serve 19 = .ok (.aload_n 0, 1) := by decide +kernel
theorem dX4_serve_20 : decode cX4_serve 20 = .ok (.getfield 113, 3) := by decide +kernel
theorem dX4_serve_23 : decode cX4_serve 23 = .ok (.aload_n 0, 1) := by decide +kernel
theorem dX4_serve_24 : decode cX4_serve 24 = .ok (.getfield 21, 3) := by decide +kernel
theorem dX4_serve_27 : decode cX4_serve 27 = .ok (.iload_n 3, 1) := by decide +kernel
theorem dX4_serve_28 : decode cX4_serve 28 = .ok (.iaload, 1) := by decide +kernel
theorem dX4_serve_29 : decode cX4_serve 29 = .ok (.iand, 1) := by decide +kernel
theorem dX4_serve_30 : decode cX4_serve 30 = .ok (.invokevirtual 129, 3) := by decide +kernel
theorem dX4_serve_33 : decode cX4_serve 33 = .ok (.istore 5, 2) := by decide +kernel
theorem dX4_serve_35 : decode cX4_serve 35 = .ok (.iload 5, 2) := by decide +kernel
theorem dX4_serve_37 : decode cX4_serve 37 = .ok (.iconst (-1), 1) := by decide +kernel
theorem dX4_serve_38 : decode cX4_serve 38 = .ok (.if_icmp .eq 27, 3) := by decide +kernel
theorem dX4_serve_41 : decode cX4_serve 41 = .ok (.aload_n 0, 1) := by decide +kernel
theorem dX4_serve_42 : decode cX4_serve 42 = .ok (.iload_n 1, 1) := by decide +kernel
theorem dX4_serve_43 : decode cX4_serve 43 = .ok (.iload_n 3, 1) := by decide +kernel
theorem dX4_serve_44 : decode cX4_serve 44 = .ok (.iload 5, 2) := by decide +kernel
theorem dX4_serve_46 : decode cX4_serve 46 = .ok (.invokevirtual 132, 3) := by decide +kernel
theorem dX4_serve_49 : decode cX4_serve 49 = .ok (.aload_n 0, 1) := by decide +kernel
theorem dX4_serve_50 : decode cX4_serve 50 = .ok (.dup, 1) := by decide +kernel
theorem dX4_serve_51 : decode cX4_serve 51 = .ok (.getfield 122, 3) := by decide +kernel
theorem dX4_serve_54 : decode cX4_serve 54 = .ok (.lconst 1, 1) := by decide +kernel
theorem dX4_serve_55 : decode cX4_serve 55 = .ok (.iload 4, 2) := by decide +kernel
theorem dX4_serve_57 : decode cX4_serve 57 = .ok (.lshl, 1) := by decide +kernel
theorem dX4_serve_58 : decode cX4_serve 58 = .ok (.lor, 1) := by decide +kernel
theorem dX4_serve_59 : decode cX4_serve 59 = .ok (.putfield 122, 3) := by decide +kernel
theorem dX4_serve_62 : decode cX4_serve 62 = .ok (.goto 36, 3) := by decide +kernel
theorem dX4_serve_65 : decode cX4_serve 65 = .ok (.aload_n 0, 1) := by decide +kernel
theorem dX4_serve_66 : decode cX4_serve 66 = .ok (.getfield 126, 3) := by decide +kernel
theorem dX4_serve_69 : decode cX4_serve 69 = .ok (.iconst (-1), 1) := by decide +kernel
theorem dX4_serve_70 : decode cX4_serve 70 = .ok (.if_icmp .ne 28, 3) := by decide +kernel
theorem dX4_serve_73 : decode cX4_serve 73 = .ok (.aload_n 0, 1) := by decide +kernel
theorem dX4_serve_74 : decode cX4_serve 74 = .ok (.getfield 116, 3) := by decide +kernel
theorem dX4_serve_77 : decode cX4_serve 77 = .ok (.aload_n 0, 1) := by decide +kernel
theorem dX4_serve_78 : decode cX4_serve 78 = .ok (.getfield 119, 3) := by decide +kernel
theorem dX4_serve_81 : decode cX4_serve 81 = .ok (.ior, 1) := by decide +kernel
theorem dX4_serve_82 : decode cX4_serve 82 = .ok (.aload_n 0, 1) := by decide +kernel
theorem dX4_serve_83 : decode cX4_serve 83 = .ok (.getfield 18, 3) := by decide +kernel
theorem dX4_serve_86 : decode cX4_serve 86 = .ok (.iload_n 3, 1) := by decide +kernel
theorem dX4_serve_87 : decode cX4_serve 87 = .ok (.iaload, 1) := by decide +kernel
theorem dX4_serve_88 : decode cX4_serve 88 = .ok (.iand, 1) := by decide +kernel
theorem dX4_serve_89 : decode cX4_serve 89 = .ok (.ifCond .eq 9, 3) := by decide +kernel
theorem dX4_serve_92 : decode cX4_serve 92 = .ok (.aload_n 0, 1) := by decide +kernel
theorem dX4_serve_93 : decode cX4_serve 93 = .ok (.iload 4, 2) := by decide +kernel
theorem dX4_serve_95 : decode cX4_serve 95 = .ok (.putfield 126, 3) := by decide +kernel
theorem dX4_serve_98 : decode cX4_serve 98 = .ok (.return_, 1) := by decide +kernel
theorem dX4_give_0 : decode cX4_give 0 = .ok (.aload_n 0, 1) := by decide +kernel
theorem dX4_give_1 : decode cX4_give 1 = .ok (.dup, 1) := by decide +kernel
theorem dX4_give_2 : decode cX4_give 2 = .ok (.getfield 113, 3) := by decide +kernel
theorem dX4_give_5 : decode cX4_give 5 = .ok (.iconst 1, 1) := by decide +kernel
theorem dX4_give_6 : decode cX4_give 6 = .ok (.iload_n 3, 1) := by decide +kernel
theorem dX4_give_7 : decode cX4_give 7 = .ok (.ishl, 1) := by decide +kernel
theorem dX4_give_8 : decode cX4_give 8 = .ok (.iconst (-1), 1) := by decide +kernel
theorem dX4_give_9 : decode cX4_give 9 = .ok (.ixor, 1) := by decide +kernel
theorem dX4_give_10 : decode cX4_give 10 = .ok (.iand, 1) := by decide +kernel
theorem dX4_give_11 : decode cX4_give 11 = .ok (.putfield 113, 3) := by decide +kernel
theorem dX4_give_14 : decode cX4_give 14 = .ok (.aload_n 0, 1) := by decide +kernel
theorem dX4_give_15 : decode cX4_give 15 = .ok (.dup, 1) := by decide +kernel
theorem dX4_give_16 : decode cX4_give 16 = .ok (.getfield 116, 3) := by decide +kernel
theorem dX4_give_19 : decode cX4_give 19 = .ok (.iconst 1, 1) := by decide +kernel
theorem dX4_give_20 : decode cX4_give 20 = .ok (.iload_n 3, 1) := by decide +kernel
theorem dX4_give_21 : decode cX4_give 21 = .ok (.ishl, 1) := by decide +kernel
theorem dX4_give_22 : decode cX4_give 22 = .ok (.ior, 1) := by decide +kernel
theorem dX4_give_23 : decode cX4_give 23 = .ok (.putfield 116, 3) := by decide +kernel
theorem dX4_give_26 : decode cX4_give 26 = .ok (.aload_n 0, 1) := by decide +kernel
theorem dX4_give_27 : decode cX4_give 27 = .ok (.getfield 36, 3) := by decide +kernel
theorem dX4_give_30 : decode cX4_give 30 = .ok (.iload_n 3, 1) := by decide +kernel
theorem dX4_give_31 : decode cX4_give 31 = .ok (.iload_n 2, 1) := by decide +kernel
theorem dX4_give_32 : decode cX4_give 32 = .ok (.iastore, 1) := by decide +kernel
theorem dX4_give_33 : decode cX4_give 33 = .ok (.aload_n 0, 1) := by decide +kernel
theorem dX4_give_34 : decode cX4_give 34 = .ok (.getfield 39, 3) := by decide +kernel
theorem dX4_give_37 : decode cX4_give 37 = .ok (.iload_n 3, 1) := by decide +kernel
theorem dX4_give_38 : decode cX4_give 38 = .ok (.iload_n 1, 1) := by decide +kernel
theorem dX4_give_39 : decode cX4_give 39 = .ok (.iastore, 1) := by decide +kernel
theorem dX4_give_40 : decode cX4_give 40 = .ok (.return_, 1) := by decide +kernel
theorem dX4_sell_0 : decode cX4_sell 0 = .ok (.iload_n 1, 1) := by decide +kernel
theorem dX4_sell_1 : decode cX4_sell 1 = .ok (.aload_n 0, 1) := by decide +kernel
theorem dX4_sell_2 : decode cX4_sell 2 = .ok (.getfield 42, 3) := by decide +kernel
theorem dX4_sell_5 : decode cX4_sell 5 = .ok (.getfield 135, 3) := by decide +kernel
theorem dX4_sell_8 : decode cX4_sell 8 = .ok (.isub, 1) := by decide +kernel
theorem dX4_sell_9 : decode cX4_sell 9 = .ok (.iconst 1, 1) := by decide +kernel
theorem dX4_sell_10 : decode cX4_sell 10 = .ok (.iadd, 1) := by decide +kernel
theorem dX4_sell_11 : decode cX4_sell 11 = .ok (.istore_n 2, 1) := by decide +kernel
theorem dX4_sell_12 : decode cX4_sell 12 = .ok (.iload_n 2, 1) := by decide +kernel
theorem dX4_sell_13 : decode cX4_sell 13 = .ok (.ifCond .ge 7, 3) := by decide +kernel
theorem dX4_sell_16 : decode cX4_sell 16 = .ok (.iconst 0, 1) := by decide +kernel
theorem dX4_sell_17 : decode cX4_sell 17 = .ok (.goto 14, 3) := by decide +kernel
theorem dX4_sell_20 : decode cX4_sell 20 = .ok (.aload_n 0, 1) := by decide +kernel
theorem dX4_sell_21 : decode cX4_sell 21 = .ok (.getfield 113, 3) := by decide +kernel
theorem dX4_sell_24 : decode cX4_sell 24 = .ok (.aload_n 0, 1) := by decide +kernel
theorem dX4_sell_25 : decode cX4_sell 25 = .ok (.getfield 24, 3) := by decide +kernel
theorem dX4_sell_28 : decode cX4_sell 28 = .ok (.iload_n 2, 1) := by decide +kernel
theorem dX4_sell_29 : decode cX4_sell 29 = .ok (.iaload, 1) := by decide +kernel
theorem dX4_sell_30 : decode cX4_sell 30 = .ok (.iand, 1) := by decide +kernel
theorem dX4_sell_31 : decode cX4_sell 31 = .ok (.istore_n 3, 1) := by decide +kernel
theorem dX4_sell_32 : decode cX4_sell 32 = .ok (.iload_n 3, 1) := by decide +kernel
theorem dX4_sell_33 : decode cX4_sell 33 = .ok (.ifCond .ne 4, 3) := by decide +kernel
theorem dX4_sell_36 : decode cX4_sell 36 = .ok (.return_, 1) := by decide +kernel
theorem dX4_sell_37 : decode cX4_sell 37 = .ok (.aload_n 0, 1) := by decide +kernel
theorem dX4_sell_38 : decode cX4_sell 38 = .ok (.dup, 1) := by decide +kernel
theorem dX4_sell_39 : decode cX4_sell 39 = .ok (.getfield 113, 3) := by decide +kernel
theorem dX4_sell_42 : decode cX4_sell 42 = .ok (.iload_n 3, 1) := by decide +kernel
theorem dX4_sell_43 : decode cX4_sell 43 = .ok (.iconst (-1), 1) := by decide +kernel
theorem dX4_sell_44 : decode cX4_sell 44 = .ok (.ixor, 1) := by decide +kernel
theorem dX4_sell_45 : decode cX4_sell 45 = .ok (.iand, 1) := by decide +kernel
theorem dX4_sell_46 : decode cX4_sell 46 = .ok (.putfield 113, 3) := by decide +kernel
theorem dX4_sell_49 : decode cX4_sell 49 = .ok (.aload_n 0, 1) := by decide +kernel
theorem dX4_sell_50 : decode cX4_sell 50 = .ok (.dup, 1) := by decide +kernel
theorem dX4_sell_51 : decode cX4_sell 51 = .ok (.getfield 119, 3) := by decide +kernel
theorem dX4_sell_54 : decode cX4_sell 54 = .ok (.iload_n 3, 1) := by decide +kernel
theorem dX4_sell_55 : decode cX4_sell 55 = .ok (.ior, 1) := by decide +kernel
theorem dX4_sell_56 : decode cX4_sell 56 = .ok (.putfield 119, 3) := by decide +kernel
theorem dX4_sell_59 : decode cX4_sell 59 = .ok (.iconst 0, 1) := by decide +kernel
theorem dX4_sell_60 : decode cX4_sell 60 = .ok (.istore 4, 2) := by decide +kernel
theorem dX4_sell_62 : decode cX4_sell 62 = .ok (.iload 4, 2) := by decide +kernel
theorem dX4_sell_64 : decode cX4_sell 64 = .ok (.bipush 8, 2) := by decide +kernel
theorem dX4_sell_66 : decode cX4_sell 66 = .ok (.if_icmp .ge 27, 3) := by decide +kernel
theorem dX4_sell_69 : decode cX4_sell 69 = .ok (.iload_n 3, 1) := by decide +kernel
theorem dX4_sell_70 : decode cX4_sell 70 = .ok (.iload 4, 2) := by decide +kernel
theorem dX4_sell_72 : decode cX4_sell 72 = .ok (.ishr, 1) := by decide +kernel
theorem dX4_sell_73 : decode cX4_sell 73 = .ok (.iconst 1, 1) := by decide +kernel
theorem dX4_sell_74 : decode cX4_sell 74 = .ok (.iand, 1) := by decide +kernel
theorem dX4_sell_75 : decode cX4_sell 75 = .ok (.iconst 1, 1) := by decide +kernel
theorem dX4_sell_76 : decode cX4_sell 76 = .ok (.if_icmp .ne 11, 3) := by decide +kernel
theorem dX4_sell_79 : decode cX4_sell 79 = .ok (.aload_n 0, 1) := by decide +kernel
theorem dX4_sell_80 : decode cX4_sell 80 = .ok (.getfield 39, 3) := by decide +kernel
theorem dX4_sell_83 : decode cX4_sell 83 = .ok (.iload 4, 2) := by decide +kernel
theorem dX4_sell_85 : decode cX4_sell 85 = .ok (.iload_n 1, 1) := by decide +kernel
theorem dX4_sell_86 : decode cX4_sell 86 = .ok (.iastore, 1) := by decide +kernel
theorem dX4_sell_87 : decode cX4_sell 87 = .ok (.iinc 4 1, 3) := by decide +kernel
theorem dX4_sell_90 : decode cX4_sell 90 = .ok (.goto (-28), 3) := by decide +kernel
theorem dX4_sell_93 : decode cX4_sell 93 = .ok (.return_, 1) := by decide +kernel
theorem dX5_init_0 : decode cX5_init 0 = .ok (.aload_n 0, 1) := by decide +kernel
theorem dX5_init_1 : decode cX5_init 1 = .ok (.invokespecial 3, 3) := by decide +kernel
theorem dX5_init_4 : decode cX5_init 4 = .ok (.aload_n 0, 1) := by decide +kernel
theorem dX5_init_5 : decode cX5_init 5 = .ok (.bipush 48, 2) := by decide +kernel
theorem dX5_init_7 : decode cX5_init 7 = .ok (.newarray .int, 2) := by decide +kernel
theorem dX5_init_9 : decode cX5_init 9 = .ok (.putfield 11, 3) := by decide +kernel
theorem dX5_init_12 : decode cX5_init 12 = .ok (.aload_n 0, 1) := by decide +kernel
theorem dX5_init_13 : decode cX5_init 13 = .ok (.iconst (-1), 1) := by decide +kernel
theorem dX5_init_14 : decode cX5_init 14 = .ok (.putfield 15, 3) := by decide +kernel
theorem dX5_init_17 : decode cX5_init 17 = .ok (.return_, 1) := by decide +kernel
theorem dX5_isLost_0 : decode cX5_isLost 0 = .ok (.aload_n 0, 1) := by decide +kernel
theorem dX5_isLost_1 : decode cX5_isLost 1 = .ok (.getfield 15, 3) := by decide +kernel
theorem dX5_isLost_4 : decode cX5_isLost 4 = .ok (.iconst (-1), 1) := by decide +kernel
theorem dX5_isLost_5 : decode cX5_isLost 5 = .ok (.if_icmp .ne 7, 3) := by decide +kernel
theorem dX5_isLost_8 : decode cX5_isLost 8 = .ok (.iconst 1, 1) := by decide +kernel
theorem dX5_isLost_9 : decode cX5_isLost 9 = .ok (.goto 4, 3) := by decide +kernel
theorem dX5_isLost_12 : decode cX5_isLost 12 = .ok (.iconst 0, 1) := by decide +kernel
theorem dX5_isLost_13 : decode cX5_isLost 13 = .ok (.ireturn, 1) := by decide +kernel
theorem dX5_renew_0 : decode cX5_renew 0 = .ok (.aload_n 0, 1) := by decide +kernel
theorem dX5_renew_1 : decode cX5_renew 1 = .ok (.iload_n 1, 1) := by decide +kernel
theorem dX5_renew_2 : decode cX5_renew 2 = .ok (.putfield 19, 3) := by decide +kernel
theorem dX5_renew_5 : decode cX5_renew 5 = .ok (.aload_n 0, 1) := by decide +kernel
theorem dX5_renew_6 : decode cX5_renew 6 = .ok (.iload_n 2, 1) := by decide +kernel
theorem dX5_renew_7 : decode cX5_renew 7 = .ok (.putfield 15, 3) := by decide +kernel
theorem dX5_renew_10 : decode cX5_renew 10 = .ok (.aload_n 0, 1) := by decide +kernel
theorem dX5_renew_11 : decode cX5_renew 11 = .ok (.getfield 11, 3) := by decide +kernel
theorem dX5_renew_14 : decode cX5_renew 14 = .ok (.iconst 0, 1) := by decide +kernel
theorem dX5_renew_15 : decode cX5_renew 15 = .ok (.invokestatic 22, 3) := by decide +kernel
theorem dX5_renew_18 : decode cX5_renew 18 = .ok (.return_, 1) := by decide +kernel
theorem dX5_findingAt_0 : decode cX5_findingAt 0 = .ok (.aload_n 0, 1) := by decide +kernel
theorem dX5_findingAt_1 : decode cX5_findingAt 1 = .ok (.invokevirtual 28, 3) := by decide +kernel
theorem dX5_findingAt_4 : decode cX5_findingAt 4 = .ok (.ifCond .eq 5, 3) := by decide +kernel
theorem dX5_findingAt_7 : decode cX5_findingAt 7 = .ok (.iconst 1, 1) := by decide +kernel
theorem dX5_findingAt_8 : decode cX5_findingAt 8 = .ok (.ireturn, 1) := by decide +kernel
theorem dX5_findingAt_9 : decode cX5_findingAt 9 = .ok (.aload_n 0, 1) := by decide +kernel
theorem dX5_findingAt_10 : decode cX5_findingAt 10 = .ok (.getfield 19, 3) := by decide +kernel
theorem dX5_findingAt_13 : decode cX5_findingAt 13 = .ok (.iload_n 1, 1) := by decide +kernel
theorem dX5_findingAt_14 : decode cX5_findingAt 14 = .ok (.if_icmp .eq 5, 3) := by decide +kernel
theorem dX5_findingAt_17 : decode cX5_findingAt 17 = .ok (.iconst 3, 1) := by decide +kernel
theorem dX5_findingAt_18 : decode cX5_findingAt 18 = .ok (.ireturn, 1) := by decide +kernel
theorem dX5_findingAt_19 : decode cX5_findingAt 19 = .ok (.iload_n 2, 1) := by decide +kernel
theorem dX5_findingAt_20 : decode cX5_findingAt 20 = .ok (.aload_n 0, 1) := by decide +kernel
theorem dX5_findingAt_21 : decode cX5_findingAt 21 = .ok (.getfield 15, 3) := by decide +kernel
theorem dX5_findingAt_24 : decode cX5_findingAt 24 = .ok (.invokestatic 32, 3) := by decide +kernel
theorem dX5_findingAt_27 : decode cX5_findingAt 27 = .ok (.ifCond .eq 7, 3) := by decide +kernel
theorem dX5_findingAt_30 : decode cX5_findingAt 30 = .ok (.iconst 2, 1) := by decide +kernel
theorem dX5_findingAt_31 : decode cX5_findingAt 31 = .ok (.goto 4, 3) := by decide +kernel
theorem dX5_findingAt_34 : decode cX5_findingAt 34 = .ok (.iconst 0, 1) := by decide +kernel
theorem dX5_findingAt_35 : decode cX5_findingAt 35 = .ok (.ireturn, 1) := by decide +kernel
theorem dX5_hasRange_0 : decode cX5_hasRange 0 = .ok (.iload_n 1, 1) := by decide +kernel
theorem dX5_hasRange_1 : decode cX5_hasRange 1 = .ok (.ifCond .lt 21, 3) := by decide +kernel
theorem dX5_hasRange_4 : decode cX5_hasRange 4 = .ok (.iload_n 2, 1) := by decide +kernel
theorem dX5_hasRange_5 : decode cX5_hasRange 5 = .ok (.ifCond .lt 17, 3) := by decide +kernel
theorem dX5_hasRange_8 : decode cX5_hasRange 8 = .ok (.iload_n 1, 1) := by decide +kernel
theorem dX5_hasRange_9 : decode cX5_hasRange 9 = .ok (.aload_n 0, 1) := by decide +kernel
theorem dX5_hasRange_10 : decode cX5_hasRange 10 = .ok (.getfield 15, 3) := by decide +kernel
theorem dX5_hasRange_13 : decode cX5_hasRange 13 = .ok (.iload_n 2, 1) := by decide +kernel
theorem dX5_hasRange_14 : decode cX5_hasRange 14 = .ok (.isub, 1) := by decide +kernel
theorem dX5_hasRange_15 : decode cX5_hasRange 15 = .ok (.if_icmp .gt 7, 3) := by decide +kernel
theorem dX5_hasRange_18 : decode cX5_hasRange 18 = .ok (.iconst 1, 1) := by decide +kernel
theorem dX5_hasRange_19 : decode cX5_hasRange 19 = .ok (.goto 4, 3) := by decide +kernel
theorem dX5_hasRange_22 : decode cX5_hasRange 22 = .ok (.iconst 0, 1) := by decide +kernel
theorem dX5_hasRange_23 : decode cX5_hasRange 23 = .ok (.ireturn, 1) := by decide +kernel
theorem dX5_store_0 : decode cX5_store 0 = .ok (.aload_n 0, 1) := by decide +kernel
theorem dX5_store_1 : decode cX5_store 1 = .ok (.getfield 19, 3) := by decide +kernel
theorem dX5_store_4 : decode cX5_store 4 = .ok (.ifCond .ne 14, 3) := by decide +kernel
theorem dX5_store_7 : decode cX5_store 7 = .ok (.aload_n 0, 1) := by decide +kernel
theorem dX5_store_8 : decode cX5_store 8 = .ok (.getfield 11, 3) := by decide +kernel
theorem dX5_store_11 : decode cX5_store 11 = .ok (.iload_n 1, 1) := by decide +kernel
theorem dX5_store_12 : decode cX5_store 12 = .ok (.iload_n 2, 1) := by decide +kernel
theorem dX5_store_13 : decode cX5_store 13 = .ok (.i2b, 1) := by decide +kernel
theorem dX5_store_14 : decode cX5_store 14 = .ok (.iastore, 1) := by decide +kernel
theorem dX5_store_15 : decode cX5_store 15 = .ok (.goto 23, 3) := by decide +kernel
theorem dX5_store_18 : decode cX5_store 18 = .ok (.aload_n 0, 1) := by decide +kernel
theorem dX5_store_19 : decode cX5_store 19 = .ok (.getfield 11, 3) := by decide +kernel
theorem dX5_store_22 : decode cX5_store 22 = .ok (.iload_n 1, 1) := by decide +kernel
theorem dX5_store_23 : decode cX5_store 23 = .ok (.aload_n 0, 1) := by decide +kernel
theorem dX5_store_24 : decode cX5_store 24 = .ok (.getfield 19, 3) := by decide +kernel
theorem dX5_store_27 : decode cX5_store 27 = .ok (.iconst 1, 1) := by decide +kernel
theorem dX5_store_28 : decode cX5_store 28 = .ok (.if_icmp .ne 8, 3) := by decide +kernel
theorem dX5_store_31 : decode cX5_store 31 = .ok (.iload_n 2, 1) := by decide +kernel
theorem dX5_store_32 : decode cX5_store 32 = .ok (.i2s, 1) := by decide +kernel
theorem dX5_store_33 : decode cX5_store 33 = .ok (.goto 4, 3) := by decide +kernel
theorem dX5_store_36 : decode cX5_store 36 = .ok (.iload_n 2, 1) := by decide +kernel
theorem dX5_store_37 : decode cX5_store 37 = .ok (.iastore, 1) := by decide +kernel
theorem dX5_store_38 : decode cX5_store 38 = .ok (.return_, 1) := by decide +kernel
theorem dX6_init_0 : decode cX6_init 0 = .ok (.aload_n 0, 1) := by decide +kernel
theorem dX6_init_1 : decode cX6_init 1 = .ok (.invokespecial 3, 3) := by decide +kernel
theorem dX6_init_4 : decode cX6_init 4 = .ok (.aload_n 0, 1) := by decide +kernel
theorem dX6_init_5 : decode cX6_init 5 = .ok (.bipush 8, 2) := by decide +kernel
theorem dX6_init_7 : decode cX6_init 7 = .ok (.newarray .int, 2) := by decide +kernel
theorem dX6_init_9 : decode cX6_init 9 = .ok (.putfield 11, 3) := by decide +kernel
theorem dX6_init_12 : decode cX6_init 12 = .ok (.aload_n 0, 1) := by decide +kernel
theorem dX6_init_13 : decode cX6_init 13 = .ok (.bipush 8, 2) := by decide +kernel
theorem dX6_init_15 : decode cX6_init 15 = .ok (.newarray .int, 2) := by decide +kernel
theorem dX6_init_17 : decode cX6_init 17 = .ok (.putfield 15, 3) := by decide +kernel
theorem dX6_init_20 : decode cX6_init 20 = .ok (.aload_n 0, 1) := by decide +kernel
theorem dX6_init_21 : decode cX6_init 21 = .ok (.bipush 8, 2) := by decide +kernel
theorem dX6_init_23 : decode cX6_init 23 = .ok (.newarray .int, 2) := by decide +kernel
theorem dX6_init_25 : decode cX6_init 25 = .ok (.putfield 18, 3) := by decide +kernel
theorem dX6_init_28 : decode cX6_init 28 = .ok (.return_, 1) := by decide +kernel
theorem dX6_add_0 : decode cX6_add 0 = .ok (.iload_n 1, 1) := by decide +kernel
theorem dX6_add_1 : decode cX6_add 1 = .ok (.bipush 40, 2) := by decide +kernel
theorem dX6_add_3 : decode cX6_add 3 = .ok (.invokestatic 21, 3) := by decide +kernel
theorem dX6_add_6 : decode cX6_add 6 = .ok (.ifCond .ne 20, 3) := by decide +kernel
theorem dX6_add_9 : decode cX6_add 9 = .ok (.iload_n 2, 1) := by decide +kernel
theorem dX6_add_10 : decode cX6_add 10 = .ok (.bipush 8, 2) := by decide +kernel
theorem dX6_add_12 : decode cX6_add 12 = .ok (.invokestatic 21, 3) := by decide +kernel
theorem dX6_add_15 : decode cX6_add 15 = .ok (.ifCond .ne 11, 3) := by decide +kernel
theorem dX6_add_18 : decode cX6_add 18 = .ok (.iload_n 3, 1) := by decide +kernel
theorem dX6_add_19 : decode cX6_add 19 = .ok (.iconst 2, 1) := by decide +kernel
theorem dX6_add_20 : decode cX6_add 20 = .ok (.invokestatic 21, 3) := by decide +kernel
theorem dX6_add_23 : decode cX6_add 23 = .ok (.ifCond .eq 6, 3) := by decide +kernel
theorem dX6_add_26 : decode cX6_add 26 = .ok (.bipush (-2), 2) := by decide +kernel
theorem dX6_add_28 : decode cX6_add 28 = .ok (.ireturn, 1) := by decide +kernel
theorem dX6_add_29 : decode cX6_add 29 = .ok (.aload_n 0, 1) := by decide +kernel
theorem dX6_add_30 : decode cX6_add 30 = .ok (.getfield 25, 3) := by decide +kernel
theorem dX6_add_33 : decode cX6_add 33 = .ok (.bipush 8, 2) := by decide +kernel
theorem dX6_add_35 : decode cX6_add 35 = .ok (.if_icmp .lt 6, 3) := by decide +kernel
theorem dX6_add_38 : decode cX6_add 38 = .ok (.bipush (-4), 2) := by decide +kernel
theorem dX6_add_40 : decode cX6_add 40 = .ok (.ireturn, 1) := by decide +kernel
theorem dX6_add_41 : decode cX6_add 41 = .ok (.aload_n 0, 1) := by decide +kernel
theorem dX6_add_42 : decode cX6_add 42 = .ok (.getfield 11, 3) := by decide +kernel
theorem dX6_add_45 : decode cX6_add 45 = .ok (.aload_n 0, 1) := by decide +kernel
theorem dX6_add_46 : decode cX6_add 46 = .ok (.getfield 25, 3) := by decide +kernel
theorem dX6_add_49 : decode cX6_add 49 = .ok (.iload_n 1, 1) := by decide +kernel
theorem dX6_add_50 : decode cX6_add 50 = .ok (.iastore, 1) := by decide +kernel
theorem dX6_add_51 : decode cX6_add 51 = .ok (.aload_n 0, 1) := by decide +kernel
theorem dX6_add_52 : decode cX6_add 52 = .ok (.getfield 15, 3) := by decide +kernel
theorem dX6_add_55 : decode cX6_add 55 = .ok (.aload_n 0, 1) := by decide +kernel
theorem dX6_add_56 : decode cX6_add 56 = .ok (.getfield 25, 3) := by decide +kernel
theorem dX6_add_59 : decode cX6_add 59 = .ok (.iload_n 2, 1) := by decide +kernel
theorem dX6_add_60 : decode cX6_add 60 = .ok (.iastore, 1) := by decide +kernel
theorem dX6_add_61 : decode cX6_add 61 = .ok (.aload_n 0, 1) := by decide +kernel
theorem dX6_add_62 : decode cX6_add 62 = .ok (.getfield 18, 3) := by decide +kernel
theorem dX6_add_65 : decode cX6_add 65 = .ok (.aload_n 0, 1) := by decide +kernel
theorem dX6_add_66 : decode cX6_add 66 = .ok (.getfield 25, 3) := by decide +kernel
theorem dX6_add_69 : decode cX6_add 69 = .ok (.iload_n 3, 1) := by decide +kernel
theorem dX6_add_70 : decode cX6_add 70 = .ok (.iastore, 1) := by decide +kernel
theorem dX6_add_71 : decode cX6_add 71 = .ok (.aload_n 0, 1) := by decide +kernel
theorem dX6_add_72 : decode cX6_add 72 = .ok (.dup, 1) := by decide +kernel
theorem dX6_add_73 : decode cX6_add 73 = .ok (.getfield 25, 3) := by decide +kernel
theorem dX6_add_76 : decode cX6_add 76 = .ok (.iconst 1, 1) := by decide +kernel
theorem dX6_add_77 : decode cX6_add 77 = .ok (.iadd, 1) := by decide +kernel
theorem dX6_add_78 : decode cX6_add 78 = .ok (.putfield 25, 3) := by decide +kernel
theorem dX6_add_81 : decode cX6_add 81 = .ok (.aload_n 0, 1) := by decide +kernel
theorem dX6_add_82 : decode cX6_add 82 = .ok (.getfield 25, 3) := by decide +kernel
theorem dX6_add_85 : decode cX6_add 85 = .ok (.ireturn, 1) := by decide +kernel
theorem dX6_lastWeek_0 : decode cX6_lastWeek 0 = .ok (.iconst (-1), 1) := by decide +kernel
theorem dX6_lastWeek_1 : decode cX6_lastWeek 1 = .ok (.istore_n 1, 1) := by decide +kernel
theorem dX6_lastWeek_2 : decode cX6_lastWeek 2 = .ok (.iconst 0, 1) := by decide +kernel
theorem dX6_lastWeek_3 : decode cX6_lastWeek 3 = .ok (.istore_n 2, 1) := by decide +kernel
theorem dX6_lastWeek_4 : decode cX6_lastWeek 4 = .ok (.iload_n 2, 1) := by decide +kernel
theorem dX6_lastWeek_5 : decode cX6_lastWeek 5 = .ok (.aload_n 0, 1) := by decide +kernel
theorem dX6_lastWeek_6 : decode cX6_lastWeek 6 = .ok (.getfield 25, 3) := by decide +kernel
theorem dX6_lastWeek_9 : decode cX6_lastWeek 9 = .ok (.if_icmp .ge 20, 3) := by decide +kernel
theorem dX6_lastWeek_12 : decode cX6_lastWeek 12 = .ok (.iload_n 1, 1) := by decide +kernel
theorem dX6_lastWeek_13 : decode cX6_lastWeek 13 = .ok (.aload_n 0, 1) := by decide +kernel
theorem dX6_lastWeek_14 : decode cX6_lastWeek 14 = .ok (.getfield 11, 3) := by decide +kernel
theorem dX6_lastWeek_17 : decode cX6_lastWeek 17 = .ok (.iload_n 2, 1) := by decide +kernel
theorem dX6_lastWeek_18 : decode cX6_lastWeek 18 = .ok (.iaload, 1) := by decide +kernel
theorem dX6_lastWeek_19 : decode cX6_lastWeek 19 = .ok (.invokestatic 29, 3) := by decide +kernel
theorem dX6_lastWeek_22 : decode cX6_lastWeek 22 = .ok (.istore_n 1, 1) := by decide +kernel
theorem dX6_lastWeek_23 : decode cX6_lastWeek 23 = .ok (.iinc 2 1, 3) := by decide +kernel
theorem dX6_lastWeek_26 : decode cX6_lastWeek 26 = .ok (.goto (-22), 3) := by decide +kernel
theorem dX6_lastWeek_29 : decode cX6_lastWeek 29 = .ok (.iload_n 1, 1) := by decide +kernel
theorem dX6_lastWeek_30 : decode cX6_lastWeek 30 = .ok (.ireturn, 1) := by decide +kernel
theorem dX6_agreeWith_0 : decode cX6_agreeWith 0 = .ok (.iconst 0, 1) := by decide +kernel
theorem dX6_agreeWith_1 : decode cX6_agreeWith 1 = .ok (.istore_n 2, 1) := by decide +kernel
theorem dX6_agreeWith_2 : decode cX6_agreeWith 2 = .ok (.iload_n 2, 1) := by decide +kernel
theorem dX6_agreeWith_3 : decode cX6_agreeWith 3 = .ok (.aload_n 0, 1) := by decide +kernel
theorem dX6_agreeWith_4 : decode cX6_agreeWith 4 = .ok (.getfield 25, 3) := by decide +kernel
theorem dX6_agreeWith_7 : decode cX6_agreeWith 7 = .ok (.if_icmp .ge 37, 3) := by decide +kernel
theorem dX6_agreeWith_10 : decode cX6_agreeWith 10 = .ok (.aload_n 1, 1) := by decide +kernel
theorem dX6_agreeWith_11 : decode cX6_agreeWith 11 = .ok (.aload_n 0, 1) := by decide +kernel
theorem dX6_agreeWith_12 : decode cX6_agreeWith 12 = .ok (.getfield 11, 3) := by decide +kernel
theorem dX6_agreeWith_15 : decode cX6_agreeWith 15 = .ok (.iload_n 2, 1) := by decide +kernel
theorem dX6_agreeWith_16 : decode cX6_agreeWith 16 = .ok (.iaload, 1) := by decide +kernel
theorem dX6_agreeWith_17 : decode cX6_agreeWith 17 = .ok (.iaload, 1) := by decide +kernel
theorem dX6_agreeWith_18 : decode cX6_agreeWith 18 = .ok (.aload_n 0, 1) := by decide +kernel
theorem dX6_agreeWith_19 : decode cX6_agreeWith 19 = .ok (.getfield 15, 3) := by decide +kernel
theorem dX6_agreeWith_22 : decode cX6_agreeWith 22 = .ok (.iload_n 2, 1) := by decide +kernel
theorem dX6_agreeWith_23 : decode cX6_agreeWith 23 = .ok (.iaload, 1) := by decide +kernel
theorem dX6_agreeWith_24 : decode cX6_agreeWith 24 = .ok (.ishr, 1) := by decide +kernel
theorem dX6_agreeWith_25 : decode cX6_agreeWith 25 = .ok (.iconst 1, 1) := by decide +kernel
theorem dX6_agreeWith_26 : decode cX6_agreeWith 26 = .ok (.iand, 1) := by decide +kernel
theorem dX6_agreeWith_27 : decode cX6_agreeWith 27 = .ok (.aload_n 0, 1) := by decide +kernel
theorem dX6_agreeWith_28 : decode cX6_agreeWith 28 = .ok (.getfield 18, 3) := by decide +kernel
theorem dX6_agreeWith_31 : decode cX6_agreeWith 31 = .ok (.iload_n 2, 1) := by decide +kernel
theorem dX6_agreeWith_32 : decode cX6_agreeWith 32 = .ok (.iaload, 1) := by decide +kernel
theorem dX6_agreeWith_33 : decode cX6_agreeWith 33 = .ok (.if_icmp .eq 5, 3) := by decide +kernel
theorem dX6_agreeWith_36 : decode cX6_agreeWith 36 = .ok (.iconst 0, 1) := by decide +kernel
theorem dX6_agreeWith_37 : decode cX6_agreeWith 37 = .ok (.ireturn, 1) := by decide +kernel
theorem dX6_agreeWith_38 : decode cX6_agreeWith 38 = .ok (.iinc 2 1, 3) := by decide +kernel
theorem dX6_agreeWith_41 : decode cX6_agreeWith 41 = .ok (.goto (-39), 3) := by decide +kernel
theorem dX6_agreeWith_44 : decode cX6_agreeWith 44 = .ok (.iconst 1, 1) := by decide +kernel
theorem dX6_agreeWith_45 : decode cX6_agreeWith 45 = .ok (.ireturn, 1) := by decide +kernel
theorem dX7_init_0 : decode cX7_init 0 = .ok (.aload_n 0, 1) := by decide +kernel
theorem dX7_init_1 : decode cX7_init 1 = .ok (.invokespecial 1, 3) := by decide +kernel
theorem dX7_init_4 : decode cX7_init 4 = .ok (.aload_n 0, 1) := by decide +kernel
theorem dX7_init_5 : decode cX7_init 5 = .ok (.new 7, 3) := by decide +kernel
theorem dX7_init_8 : decode cX7_init 8 = .ok (.dup, 1) := by decide +kernel
theorem dX7_init_9 : decode cX7_init 9 = .ok (.iconst 0, 1) := by decide +kernel
theorem dX7_init_10 : decode cX7_init 10 = .ok (.invokespecial 9, 3) := by decide +kernel
theorem dX7_init_13 : decode cX7_init 13 = .ok (.putfield 12, 3) := by decide +kernel
theorem dX7_init_16 : decode cX7_init 16 = .ok (.aload_n 0, 1) := by decide +kernel
theorem dX7_init_17 : decode cX7_init 17 = .ok (.new 7, 3) := by decide +kernel
theorem dX7_init_20 : decode cX7_init 20 = .ok (.dup, 1) := by decide +kernel
theorem dX7_init_21 : decode cX7_init 21 = .ok (.iconst 1, 1) := by decide +kernel
theorem dX7_init_22 : decode cX7_init 22 = .ok (.invokespecial 9, 3) := by decide +kernel
theorem dX7_init_25 : decode cX7_init 25 = .ok (.putfield 18, 3) := by decide +kernel
theorem dX7_init_28 : decode cX7_init 28 = .ok (.aload_n 0, 1) := by decide +kernel
theorem dX7_init_29 : decode cX7_init 29 = .ok (.new 21, 3) := by decide +kernel
theorem dX7_init_32 : decode cX7_init 32 = .ok (.dup, 1) := by decide +kernel
theorem dX7_init_33 : decode cX7_init 33 = .ok (.aload_n 0, 1) := by decide +kernel
theorem dX7_init_34 : decode cX7_init 34 = .ok (.getfield 12, 3) := by decide +kernel
theorem dX7_init_37 : decode cX7_init 37 = .ok (.aload_n 0, 1) := by decide +kernel
theorem dX7_init_38 : decode cX7_init 38 = .ok (.getfield 18, 3) := by decide +kernel
theorem dX7_init_41 : decode cX7_init 41 = .ok (.invokespecial 23, 3) := by decide +kernel
theorem dX7_init_44 : decode cX7_init 44 = .ok (.putfield 26, 3) := by decide +kernel
theorem dX7_init_47 : decode cX7_init 47 = .ok (.aload_n 0, 1) := by decide +kernel
theorem dX7_init_48 : decode cX7_init 48 = .ok (.new 30, 3) := by decide +kernel
theorem dX7_init_51 : decode cX7_init 51 = .ok (.dup, 1) := by decide +kernel
theorem dX7_init_52 : decode cX7_init 52 = .ok (.invokespecial 32, 3) := by decide +kernel
theorem dX7_init_55 : decode cX7_init 55 = .ok (.putfield 33, 3) := by decide +kernel
theorem dX7_init_58 : decode cX7_init 58 = .ok (.aload_n 0, 1) := by decide +kernel
theorem dX7_init_59 : decode cX7_init 59 = .ok (.new 30, 3) := by decide +kernel
theorem dX7_init_62 : decode cX7_init 62 = .ok (.dup, 1) := by decide +kernel
theorem dX7_init_63 : decode cX7_init 63 = .ok (.invokespecial 32, 3) := by decide +kernel
theorem dX7_init_66 : decode cX7_init 66 = .ok (.putfield 37, 3) := by decide +kernel
theorem dX7_init_69 : decode cX7_init 69 = .ok (.aload_n 0, 1) := by decide +kernel
theorem dX7_init_70 : decode cX7_init 70 = .ok (.new 40, 3) := by decide +kernel
theorem dX7_init_73 : decode cX7_init 73 = .ok (.dup, 1) := by decide +kernel
theorem dX7_init_74 : decode cX7_init 74 = .ok (.invokespecial 42, 3) := by decide +kernel
theorem dX7_init_77 : decode cX7_init 77 = .ok (.putfield 43, 3) := by decide +kernel
theorem dX7_init_80 : decode cX7_init 80 = .ok (.aload_n 0, 1) := by decide +kernel
theorem dX7_init_81 : decode cX7_init 81 = .ok (.new 47, 3) := by decide +kernel
theorem dX7_init_84 : decode cX7_init 84 = .ok (.dup, 1) := by decide +kernel
theorem dX7_init_85 : decode cX7_init 85 = .ok (.aload_n 0, 1) := by decide +kernel
theorem dX7_init_86 : decode cX7_init 86 = .ok (.getfield 26, 3) := by decide +kernel
theorem dX7_init_89 : decode cX7_init 89 = .ok (.invokespecial 49, 3) := by decide +kernel
theorem dX7_init_92 : decode cX7_init 92 = .ok (.putfield 52, 3) := by decide +kernel
theorem dX7_init_95 : decode cX7_init 95 = .ok (.aload_n 0, 1) := by decide +kernel
theorem dX7_init_96 : decode cX7_init 96 = .ok (.new 47, 3) := by decide +kernel
theorem dX7_init_99 : decode cX7_init 99 = .ok (.dup, 1) := by decide +kernel
theorem dX7_init_100 : decode cX7_init 100 = .ok (.aload_n 0, 1) := by decide +kernel
theorem dX7_init_101 : decode cX7_init 101 = .ok (.getfield 26, 3) := by decide +kernel
theorem dX7_init_104 : decode cX7_init 104 = .ok (.invokespecial 49, 3) := by decide +kernel
theorem dX7_init_107 : decode cX7_init 107 = .ok (.putfield 56, 3) := by decide +kernel
theorem dX7_init_110 : decode cX7_init 110 = .ok (.aload_n 0, 1) := by decide +kernel
theorem dX7_init_111 : decode cX7_init 111 = .ok (.new 59, 3) := by decide +kernel
theorem dX7_init_114 : decode cX7_init 114 = .ok (.dup, 1) := by decide +kernel
theorem dX7_init_115 : decode cX7_init 115 = .ok (.invokespecial 61, 3) := by decide +kernel
theorem dX7_init_118 : decode cX7_init 118 = .ok (.putfield 62, 3) := by decide +kernel
theorem dX7_init_121 : decode cX7_init 121 = .ok (.aload_n 0, 1) := by decide +kernel
theorem dX7_init_122 : decode cX7_init 122 = .ok (.iconst 4, 1) := by decide +kernel
theorem dX7_init_123 : decode cX7_init 123 = .ok (.anewarray 66, 3) := by decide +kernel
theorem dX7_init_126 : decode cX7_init 126 = .ok (.putfield 68, 3) := by decide +kernel
theorem dX7_init_129 : decode cX7_init 129 = .ok (.iconst 0, 1) := by decide +kernel
theorem dX7_init_130 : decode cX7_init 130 = .ok (.istore_n 1, 1) := by decide +kernel
theorem dX7_init_131 : decode cX7_init 131 = .ok (.iload_n 1, 1) := by decide +kernel
theorem dX7_init_132 : decode cX7_init 132 = .ok (.iconst 4, 1) := by decide +kernel
theorem dX7_init_133 : decode cX7_init 133 = .ok (.if_icmp .ge 22, 3) := by decide +kernel
theorem dX7_init_136 : decode cX7_init 136 = .ok (.aload_n 0, 1) := by decide +kernel
theorem dX7_init_137 : decode cX7_init 137 = .ok (.getfield 68, 3) := by decide +kernel
theorem dX7_init_140 : decode cX7_init 140 = .ok (.iload_n 1, 1) := by decide +kernel
theorem dX7_init_141 : decode cX7_init 141 = .ok (.new 66, 3) := by decide +kernel
theorem dX7_init_144 : decode cX7_init 144 = .ok (.dup, 1) := by decide +kernel
theorem dX7_init_145 : decode cX7_init 145 = .ok (.invokespecial 72, 3) := by decide +kernel
theorem dX7_init_148 : decode cX7_init 148 = .ok (.aastore, 1) := by decide +kernel
theorem dX7_init_149 : decode cX7_init 149 = .ok (.iinc 1 1, 3) := by decide +kernel
theorem dX7_init_152 : decode cX7_init 152 = .ok (.goto (-21), 3) := by decide +kernel
theorem dX7_init_155 : decode cX7_init 155 = .ok (.return_, 1) := by decide +kernel
theorem dX7_type_0 : decode cX7_type 0 = .ok (.iload_n 1, 1) := by decide +kernel
theorem dX7_type_1 : decode cX7_type 1 = .ok (.iconst 2, 1) := by decide +kernel
theorem dX7_type_2 : decode cX7_type 2 = .ok (.invokestatic 73, 3) := by decide +kernel
theorem dX7_type_5 : decode cX7_type 5 = .ok (.ifCond .ne 13, 3) := by decide +kernel
theorem dX7_type_8 : decode cX7_type 8 = .ok (.iload_n 2, 1) := by decide +kernel
theorem dX7_type_9 : decode cX7_type 9 = .ok (.sipush 256, 3) := by decide +kernel
theorem dX7_type_12 : decode cX7_type 12 = .ok (.invokestatic 73, 3) := by decide +kernel
theorem dX7_type_15 : decode cX7_type 15 = .ok (.ifCond .eq 6, 3) := by decide +kernel
theorem dX7_type_18 : decode cX7_type 18 = .ok (.bipush (-2), 2) := by decide +kernel
theorem dX7_type_20 : decode cX7_type 20 = .ok (.ireturn, 1) := by decide +kernel
theorem dX7_type_21 : decode cX7_type 21 = .ok (.aload_n 0, 1) := by decide +kernel
theorem dX7_type_22 : decode cX7_type 22 = .ok (.iload_n 1, 1) := by decide +kernel
theorem dX7_type_23 : decode cX7_type 23 = .ok (.invokevirtual 77, 3) := by decide +kernel
theorem dX7_type_26 : decode cX7_type 26 = .ok (.astore_n 3, 1) := by decide +kernel
theorem dX7_type_27 : decode cX7_type 27 = .ok (.aload_n 3, 1) := by decide +kernel
theorem dX7_type_28 : decode cX7_type 28 = .ok (.getfield 81, 3) := by decide +kernel
theorem dX7_type_31 : decode cX7_type 31 = .ok (.bipush 47, 2) := by decide +kernel
theorem dX7_type_33 : decode cX7_type 33 = .ok (.if_icmp .lt 6, 3) := by decide +kernel
theorem dX7_type_36 : decode cX7_type 36 = .ok (.bipush (-4), 2) := by decide +kernel
theorem dX7_type_38 : decode cX7_type 38 = .ok (.ireturn, 1) := by decide +kernel
theorem dX7_type_39 : decode cX7_type 39 = .ok (.aload_n 3, 1) := by decide +kernel
theorem dX7_type_40 : decode cX7_type 40 = .ok (.iload_n 2, 1) := by decide +kernel
theorem dX7_type_41 : decode cX7_type 41 = .ok (.invokevirtual 85, 3) := by decide +kernel
theorem dX7_type_44 : decode cX7_type 44 = .ok (.aload_n 0, 1) := by decide +kernel
theorem dX7_type_45 : decode cX7_type 45 = .ok (.invokevirtual 89, 3) := by decide +kernel
theorem dX7_type_48 : decode cX7_type 48 = .ok (.aload_n 3, 1) := by decide +kernel
theorem dX7_type_49 : decode cX7_type 49 = .ok (.getfield 81, 3) := by decide +kernel
theorem dX7_type_52 : decode cX7_type 52 = .ok (.ireturn, 1) := by decide +kernel
theorem dX7_wipe_0 : decode cX7_wipe 0 = .ok (.iload_n 1, 1) := by decide +kernel
theorem dX7_wipe_1 : decode cX7_wipe 1 = .ok (.iconst 2, 1) := by decide +kernel
theorem dX7_wipe_2 : decode cX7_wipe 2 = .ok (.invokestatic 73, 3) := by decide +kernel
theorem dX7_wipe_5 : decode cX7_wipe 5 = .ok (.ifCond .eq 6, 3) := by decide +kernel
theorem dX7_wipe_8 : decode cX7_wipe 8 = .ok (.bipush (-2), 2) := by decide +kernel
theorem dX7_wipe_10 : decode cX7_wipe 10 = .ok (.ireturn, 1) := by decide +kernel
theorem dX7_wipe_11 : decode cX7_wipe 11 = .ok (.aload_n 0, 1) := by decide +kernel
theorem dX7_wipe_12 : decode cX7_wipe 12 = .ok (.iload_n 1, 1) := by decide +kernel
theorem dX7_wipe_13 : decode cX7_wipe 13 = .ok (.invokevirtual 77, 3) := by decide +kernel
theorem dX7_wipe_16 : decode cX7_wipe 16 = .ok (.astore_n 2, 1) := by decide +kernel
theorem dX7_wipe_17 : decode cX7_wipe 17 = .ok (.aload_n 2, 1) := by decide +kernel
theorem dX7_wipe_18 : decode cX7_wipe 18 = .ok (.getfield 81, 3) := by decide +kernel
theorem dX7_wipe_21 : decode cX7_wipe 21 = .ok (.istore_n 3, 1) := by decide +kernel
theorem dX7_wipe_22 : decode cX7_wipe 22 = .ok (.aload_n 2, 1) := by decide +kernel
theorem dX7_wipe_23 : decode cX7_wipe 23 = .ok (.invokevirtual 92, 3) := by decide +kernel
theorem dX7_wipe_26 : decode cX7_wipe 26 = .ok (.aload_n 0, 1) := by decide +kernel
theorem dX7_wipe_27 : decode cX7_wipe 27 = .ok (.invokevirtual 89, 3) := by decide +kernel
theorem dX7_wipe_30 : decode cX7_wipe 30 = .ok (.iload_n 3, 1) := by decide +kernel
theorem dX7_wipe_31 : decode cX7_wipe 31 = .ok (.ireturn, 1) := by decide +kernel
theorem dX7_undo_0 : decode cX7_undo 0 = .ok (.iload_n 1, 1) := by decide +kernel
theorem dX7_undo_1 : decode cX7_undo 1 = .ok (.iconst 2, 1) := by decide +kernel
theorem dX7_undo_2 : decode cX7_undo 2 = .ok (.invokestatic 73, 3) := by decide +kernel
theorem dX7_undo_5 : decode cX7_undo 5 = .ok (.ifCond .eq 6, 3) := by decide +kernel
theorem dX7_undo_8 : decode cX7_undo 8 = .ok (.bipush (-2), 2) := by decide +kernel
theorem dX7_undo_10 : decode cX7_undo 10 = .ok (.ireturn, 1) := by decide +kernel
theorem dX7_undo_11 : decode cX7_undo 11 = .ok (.aload_n 0, 1) := by decide +kernel
theorem dX7_undo_12 : decode cX7_undo 12 = .ok (.iload_n 1, 1) := by decide +kernel
theorem dX7_undo_13 : decode cX7_undo 13 = .ok (.invokevirtual 77, 3) := by decide +kernel
theorem dX7_undo_16 : decode cX7_undo 16 = .ok (.astore_n 2, 1) := by decide +kernel
theorem dX7_undo_17 : decode cX7_undo 17 = .ok (.aload_n 2, 1) := by decide +kernel
theorem dX7_undo_18 : decode cX7_undo 18 = .ok (.getfield 81, 3) := by decide +kernel
theorem dX7_undo_21 : decode cX7_undo 21 = .ok (.ifCond .ne 6, 3) := by decide +kernel
theorem dX7_undo_24 : decode cX7_undo 24 = .ok (.bipush (-3), 2) := by decide +kernel
theorem dX7_undo_26 : decode cX7_undo 26 = .ok (.ireturn, 1) := by decide +kernel
theorem dX7_undo_27 : decode cX7_undo 27 = .ok (.aload_n 2, 1) := by decide +kernel
theorem dX7_undo_28 : decode cX7_undo 28 = .ok (.invokevirtual 95, 3) := by decide +kernel
theorem dX7_undo_31 : decode cX7_undo 31 = .ok (.aload_n 0, 1) := by decide +kernel
theorem dX7_undo_32 : decode cX7_undo 32 = .ok (.invokevirtual 89, 3) := by decide +kernel
theorem dX7_undo_35 : decode cX7_undo 35 = .ok (.aload_n 2, 1) := by decide +kernel
theorem dX7_undo_36 : decode cX7_undo 36 = .ok (.getfield 81, 3) := by decide +kernel
theorem dX7_undo_39 : decode cX7_undo 39 = .ok (.ireturn, 1) := by decide +kernel
theorem dX7_fault_0 : decode cX7_fault 0 = .ok (.iload_n 1, 1) := by decide +kernel
theorem dX7_fault_1 : decode cX7_fault 1 = .ok (.iconst 2, 1) := by decide +kernel
theorem dX7_fault_2 : decode cX7_fault 2 = .ok (.invokestatic 73, 3) := by decide +kernel
theorem dX7_fault_5 : decode cX7_fault 5 = .ok (.ifCond .eq 8, 3) := by decide +kernel
theorem dX7_fault_8 : decode cX7_fault 8 = .ok (.bipush (-2), 2) := by decide +kernel
theorem dX7_fault_10 : decode cX7_fault 10 = .ok (.goto 11, 3) := by decide +kernel
theorem dX7_fault_13 : decode cX7_fault 13 = .ok (.aload_n 0, 1) := by decide +kernel
theorem dX7_fault_14 : decode cX7_fault 14 = .ok (.iload_n 1, 1) := by decide +kernel
theorem dX7_fault_15 : decode cX7_fault 15 = .ok (.invokevirtual 77, 3) := by decide +kernel
theorem dX7_fault_18 : decode cX7_fault 18 = .ok (.invokevirtual 98, 3) := by decide +kernel
theorem dX7_fault_21 : decode cX7_fault 21 = .ok (.ireturn, 1) := by decide +kernel
theorem dX7_virtue_0 : decode cX7_virtue 0 = .ok (.aload_n 0, 1) := by decide +kernel
theorem dX7_virtue_1 : decode cX7_virtue 1 = .ok (.iload_n 1, 1) := by decide +kernel
theorem dX7_virtue_2 : decode cX7_virtue 2 = .ok (.invokevirtual 102, 3) := by decide +kernel
theorem dX7_virtue_5 : decode cX7_virtue 5 = .ok (.ifCond .ne 11, 3) := by decide +kernel
theorem dX7_virtue_8 : decode cX7_virtue 8 = .ok (.iload_n 2, 1) := by decide +kernel
theorem dX7_virtue_9 : decode cX7_virtue 9 = .ok (.iconst 2, 1) := by decide +kernel
theorem dX7_virtue_10 : decode cX7_virtue 10 = .ok (.invokestatic 73, 3) := by decide +kernel
theorem dX7_virtue_13 : decode cX7_virtue 13 = .ok (.ifCond .eq 6, 3) := by decide +kernel
theorem dX7_virtue_16 : decode cX7_virtue 16 = .ok (.bipush (-2), 2) := by decide +kernel
theorem dX7_virtue_18 : decode cX7_virtue 18 = .ok (.ireturn, 1) := by decide +kernel
theorem dX7_virtue_19 : decode cX7_virtue 19 = .ok (.iload_n 2, 1) := by decide +kernel
theorem dX7_virtue_20 : decode cX7_virtue 20 = .ok (.ifCond .ne 15, 3) := by decide +kernel
theorem dX7_virtue_23 : decode cX7_virtue 23 = .ok (.aload_n 0, 1) := by decide +kernel
theorem dX7_virtue_24 : decode cX7_virtue 24 = .ok (.getfield 12, 3) := by decide +kernel
theorem dX7_virtue_27 : decode cX7_virtue 27 = .ok (.getfield 106, 3) := by decide +kernel
theorem dX7_virtue_30 : decode cX7_virtue 30 = .ok (.iload_n 1, 1) := by decide +kernel
theorem dX7_virtue_31 : decode cX7_virtue 31 = .ok (.iaload, 1) := by decide +kernel
theorem dX7_virtue_32 : decode cX7_virtue 32 = .ok (.goto 12, 3) := by decide +kernel
theorem dX7_virtue_35 : decode cX7_virtue 35 = .ok (.aload_n 0, 1) := by decide +kernel
theorem dX7_virtue_36 : decode cX7_virtue 36 = .ok (.getfield 12, 3) := by decide +kernel
theorem dX7_virtue_39 : decode cX7_virtue 39 = .ok (.getfield 110, 3) := by decide +kernel
theorem dX7_virtue_42 : decode cX7_virtue 42 = .ok (.iload_n 1, 1) := by decide +kernel
theorem dX7_virtue_43 : decode cX7_virtue 43 = .ok (.iaload, 1) := by decide +kernel
theorem dX7_virtue_44 : decode cX7_virtue 44 = .ok (.ireturn, 1) := by decide +kernel
theorem dX7_claimant_0 : decode cX7_claimant 0 = .ok (.aload_n 0, 1) := by decide +kernel
theorem dX7_claimant_1 : decode cX7_claimant 1 = .ok (.iload_n 1, 1) := by decide +kernel
theorem dX7_claimant_2 : decode cX7_claimant 2 = .ok (.invokevirtual 113, 3) := by decide +kernel
theorem dX7_claimant_5 : decode cX7_claimant 5 = .ok (.ifCond .ne 11, 3) := by decide +kernel
theorem dX7_claimant_8 : decode cX7_claimant 8 = .ok (.iload_n 2, 1) := by decide +kernel
theorem dX7_claimant_9 : decode cX7_claimant 9 = .ok (.iconst 3, 1) := by decide +kernel
theorem dX7_claimant_10 : decode cX7_claimant 10 = .ok (.invokestatic 73, 3) := by decide +kernel
theorem dX7_claimant_13 : decode cX7_claimant 13 = .ok (.ifCond .eq 6, 3) := by decide +kernel
theorem dX7_claimant_16 : decode cX7_claimant 16 = .ok (.bipush (-2), 2) := by decide +kernel
theorem dX7_claimant_18 : decode cX7_claimant 18 = .ok (.ireturn, 1) := by decide +kernel
theorem dX7_claimant_19 : decode cX7_claimant 19 = .ok (.iload_n 2, 1) := by decide +kernel
theorem dX7_claimant_20 : decode cX7_claimant 20 = .ok (.ifCond .ne 13, 3) := by decide +kernel
theorem dX7_claimant_23 : decode cX7_claimant 23 = .ok (.aload_n 0, 1) := by decide +kernel
theorem dX7_claimant_24 : decode cX7_claimant 24 = .ok (.getfield 18, 3) := by decide +kernel
theorem dX7_claimant_27 : decode cX7_claimant 27 = .ok (.getfield 116, 3) := by decide +kernel
theorem dX7_claimant_30 : decode cX7_claimant 30 = .ok (.iload_n 1, 1) := by decide +kernel
theorem dX7_claimant_31 : decode cX7_claimant 31 = .ok (.iaload, 1) := by decide +kernel
theorem dX7_claimant_32 : decode cX7_claimant 32 = .ok (.ireturn, 1) := by decide +kernel
theorem dX7_claimant_33 : decode cX7_claimant 33 = .ok (.iload_n 2, 1) := by decide +kernel
theorem dX7_claimant_34 : decode cX7_claimant 34 = .ok (.iconst 1, 1) := by decide +kernel
theorem dX7_claimant_35 : decode cX7_claimant 35 = .ok (.if_icmp .ne 15, 3) := by decide +kernel
theorem dX7_claimant_38 : decode cX7_claimant 38 = .ok (.aload_n 0, 1) := by decide +kernel
theorem dX7_claimant_39 : decode cX7_claimant 39 = .ok (.getfield 18, 3) := by decide +kernel
theorem dX7_claimant_42 : decode cX7_claimant 42 = .ok (.getfield 106, 3) := by decide +kernel
theorem dX7_claimant_45 : decode cX7_claimant 45 = .ok (.iload_n 1, 1) := by decide +kernel
theorem dX7_claimant_46 : decode cX7_claimant 46 = .ok (.iaload, 1) := by decide +kernel
theorem dX7_claimant_47 : decode cX7_claimant 47 = .ok (.goto 12, 3) := by decide +kernel
theorem dX7_claimant_50 : decode cX7_claimant 50 = .ok (.aload_n 0, 1) := by decide +kernel
theorem dX7_claimant_51 : decode cX7_claimant 51 = .ok (.getfield 18, 3) := by decide +kernel
theorem dX7_claimant_54 : decode cX7_claimant 54 = .ok (.getfield 110, 3) := by decide +kernel
theorem dX7_claimant_57 : decode cX7_claimant 57 = .ok (.iload_n 1, 1) := by decide +kernel
theorem dX7_claimant_58 : decode cX7_claimant 58 = .ok (.iaload, 1) := by decide +kernel
theorem dX7_claimant_59 : decode cX7_claimant 59 = .ok (.ireturn, 1) := by decide +kernel
theorem dX7_set_0 : decode cX7_set 0 = .ok (.iload_n 1, 1) := by decide +kernel
theorem dX7_set_1 : decode cX7_set 1 = .ok (.ifCond .ne 31, 3) := by decide +kernel
theorem dX7_set_4 : decode cX7_set 4 = .ok (.iload_n 2, 1) := by decide +kernel
theorem dX7_set_5 : decode cX7_set 5 = .ok (.ifCond .lt 27, 3) := by decide +kernel
theorem dX7_set_8 : decode cX7_set 8 = .ok (.iload_n 2, 1) := by decide +kernel
theorem dX7_set_9 : decode cX7_set 9 = .ok (.iconst 4, 1) := by decide +kernel
theorem dX7_set_10 : decode cX7_set 10 = .ok (.if_icmp .gt 22, 3) := by decide +kernel
theorem dX7_set_13 : decode cX7_set 13 = .ok (.aload_n 0, 1) := by decide +kernel
theorem dX7_set_14 : decode cX7_set 14 = .ok (.getfield 26, 3) := by decide +kernel
theorem dX7_set_17 : decode cX7_set 17 = .ok (.getfield 119, 3) := by decide +kernel
theorem dX7_set_20 : decode cX7_set 20 = .ok (.istore_n 3, 1) := by decide +kernel
theorem dX7_set_21 : decode cX7_set 21 = .ok (.aload_n 0, 1) := by decide +kernel
theorem dX7_set_22 : decode cX7_set 22 = .ok (.getfield 26, 3) := by decide +kernel
theorem dX7_set_25 : decode cX7_set 25 = .ok (.iload_n 2, 1) := by decide +kernel
theorem dX7_set_26 : decode cX7_set 26 = .ok (.putfield 119, 3) := by decide +kernel
theorem dX7_set_29 : decode cX7_set 29 = .ok (.goto 75, 3) := by decide +kernel
theorem dX7_set_32 : decode cX7_set 32 = .ok (.iload_n 1, 1) := by decide +kernel
theorem dX7_set_33 : decode cX7_set 33 = .ok (.iconst 1, 1) := by decide +kernel
theorem dX7_set_34 : decode cX7_set 34 = .ok (.if_icmp .ne 32, 3) := by decide +kernel
theorem dX7_set_37 : decode cX7_set 37 = .ok (.iload_n 2, 1) := by decide +kernel
theorem dX7_set_38 : decode cX7_set 38 = .ok (.ifCond .lt 28, 3) := by decide +kernel
theorem dX7_set_41 : decode cX7_set 41 = .ok (.iload_n 2, 1) := by decide +kernel
theorem dX7_set_42 : decode cX7_set 42 = .ok (.bipush 16, 2) := by decide +kernel
theorem dX7_set_44 : decode cX7_set 44 = .ok (.if_icmp .ge 22, 3) := by decide +kernel
theorem dX7_set_47 : decode cX7_set 47 = .ok (.aload_n 0, 1) := by decide +kernel
theorem dX7_set_48 : decode cX7_set 48 = .ok (.getfield 26, 3) := by decide +kernel
theorem dX7_set_51 : decode cX7_set 51 = .ok (.getfield 122, 3) := by decide +kernel
theorem dX7_set_54 : decode cX7_set 54 = .ok (.istore_n 3, 1) := by decide +kernel
theorem dX7_set_55 : decode cX7_set 55 = .ok (.aload_n 0, 1) := by decide +kernel
theorem dX7_set_56 : decode cX7_set 56 = .ok (.getfield 26, 3) := by decide +kernel
theorem dX7_set_59 : decode cX7_set 59 = .ok (.iload_n 2, 1) := by decide +kernel
theorem dX7_set_60 : decode cX7_set 60 = .ok (.putfield 122, 3) := by decide +kernel
theorem dX7_set_63 : decode cX7_set 63 = .ok (.goto 41, 3) := by decide +kernel
theorem dX7_set_66 : decode cX7_set 66 = .ok (.iload_n 1, 1) := by decide +kernel
theorem dX7_set_67 : decode cX7_set 67 = .ok (.iconst 2, 1) := by decide +kernel
theorem dX7_set_68 : decode cX7_set 68 = .ok (.if_icmp .ne 33, 3) := by decide +kernel
theorem dX7_set_71 : decode cX7_set 71 = .ok (.iload_n 2, 1) := by decide +kernel
theorem dX7_set_72 : decode cX7_set 72 = .ok (.iconst 1, 1) := by decide +kernel
theorem dX7_set_73 : decode cX7_set 73 = .ok (.if_icmp .lt 28, 3) := by decide +kernel
theorem dX7_set_76 : decode cX7_set 76 = .ok (.iload_n 2, 1) := by decide +kernel
theorem dX7_set_77 : decode cX7_set 77 = .ok (.bipush 9, 2) := by decide +kernel
theorem dX7_set_79 : decode cX7_set 79 = .ok (.if_icmp .gt 22, 3) := by decide +kernel
theorem dX7_set_82 : decode cX7_set 82 = .ok (.aload_n 0, 1) := by decide +kernel
theorem dX7_set_83 : decode cX7_set 83 = .ok (.getfield 26, 3) := by decide +kernel
theorem dX7_set_86 : decode cX7_set 86 = .ok (.getfield 125, 3) := by decide +kernel
theorem dX7_set_89 : decode cX7_set 89 = .ok (.istore_n 3, 1) := by decide +kernel
theorem dX7_set_90 : decode cX7_set 90 = .ok (.aload_n 0, 1) := by decide +kernel
theorem dX7_set_91 : decode cX7_set 91 = .ok (.getfield 26, 3) := by decide +kernel
theorem dX7_set_94 : decode cX7_set 94 = .ok (.iload_n 2, 1) := by decide +kernel
theorem dX7_set_95 : decode cX7_set 95 = .ok (.putfield 125, 3) := by decide +kernel
theorem dX7_set_98 : decode cX7_set 98 = .ok (.goto 6, 3) := by decide +kernel
theorem dX7_set_101 : decode cX7_set 101 = .ok (.bipush (-2), 2) := by decide +kernel
theorem dX7_set_103 : decode cX7_set 103 = .ok (.ireturn, 1) := by decide +kernel
theorem dX7_set_104 : decode cX7_set 104 = .ok (.aload_n 0, 1) := by decide +kernel
theorem dX7_set_105 : decode cX7_set 105 = .ok (.iconst 0, 1) := by decide +kernel
theorem dX7_set_106 : decode cX7_set 106 = .ok (.putfield 128, 3) := by decide +kernel
theorem dX7_set_109 : decode cX7_set 109 = .ok (.iload_n 3, 1) := by decide +kernel
theorem dX7_set_110 : decode cX7_set 110 = .ok (.ireturn, 1) := by decide +kernel
theorem dX7_handing_0 : decode cX7_handing 0 = .ok (.aload_n 0, 1) := by decide +kernel
theorem dX7_handing_1 : decode cX7_handing 1 = .ok (.iconst 0, 1) := by decide +kernel
theorem dX7_handing_2 : decode cX7_handing 2 = .ok (.putfield 128, 3) := by decide +kernel
theorem dX7_handing_5 : decode cX7_handing 5 = .ok (.aload_n 0, 1) := by decide +kernel
theorem dX7_handing_6 : decode cX7_handing 6 = .ok (.getfield 33, 3) := by decide +kernel
theorem dX7_handing_9 : decode cX7_handing 9 = .ok (.iload_n 1, 1) := by decide +kernel
theorem dX7_handing_10 : decode cX7_handing 10 = .ok (.iload_n 2, 1) := by decide +kernel
theorem dX7_handing_11 : decode cX7_handing 11 = .ok (.invokevirtual 132, 3) := by decide +kernel
theorem dX7_handing_14 : decode cX7_handing 14 = .ok (.ireturn, 1) := by decide +kernel
theorem dX7_claim_0 : decode cX7_claim 0 = .ok (.aload_n 0, 1) := by decide +kernel
theorem dX7_claim_1 : decode cX7_claim 1 = .ok (.iconst 0, 1) := by decide +kernel
theorem dX7_claim_2 : decode cX7_claim 2 = .ok (.putfield 128, 3) := by decide +kernel
theorem dX7_claim_5 : decode cX7_claim 5 = .ok (.aload_n 0, 1) := by decide +kernel
theorem dX7_claim_6 : decode cX7_claim 6 = .ok (.getfield 37, 3) := by decide +kernel
theorem dX7_claim_9 : decode cX7_claim 9 = .ok (.iload_n 1, 1) := by decide +kernel
theorem dX7_claim_10 : decode cX7_claim 10 = .ok (.iload_n 2, 1) := by decide +kernel
theorem dX7_claim_11 : decode cX7_claim 11 = .ok (.invokevirtual 132, 3) := by decide +kernel
theorem dX7_claim_14 : decode cX7_claim 14 = .ok (.ireturn, 1) := by decide +kernel
theorem dX7_back_0 : decode cX7_back 0 = .ok (.iload_n 1, 1) := by decide +kernel
theorem dX7_back_1 : decode cX7_back 1 = .ok (.iconst 2, 1) := by decide +kernel
theorem dX7_back_2 : decode cX7_back 2 = .ok (.invokestatic 73, 3) := by decide +kernel
theorem dX7_back_5 : decode cX7_back 5 = .ok (.ifCond .eq 6, 3) := by decide +kernel
theorem dX7_back_8 : decode cX7_back 8 = .ok (.bipush (-2), 2) := by decide +kernel
theorem dX7_back_10 : decode cX7_back 10 = .ok (.ireturn, 1) := by decide +kernel
theorem dX7_back_11 : decode cX7_back 11 = .ok (.iload_n 1, 1) := by decide +kernel
theorem dX7_back_12 : decode cX7_back 12 = .ok (.ifCond .ne 10, 3) := by decide +kernel
theorem dX7_back_15 : decode cX7_back 15 = .ok (.aload_n 0, 1) := by decide +kernel
theorem dX7_back_16 : decode cX7_back 16 = .ok (.getfield 33, 3) := by decide +kernel
theorem dX7_back_19 : decode cX7_back 19 = .ok (.goto 7, 3) := by decide +kernel
theorem dX7_back_22 : decode cX7_back 22 = .ok (.aload_n 0, 1) := by decide +kernel
theorem dX7_back_23 : decode cX7_back 23 = .ok (.getfield 37, 3) := by decide +kernel
theorem dX7_back_26 : decode cX7_back 26 = .ok (.astore_n 2, 1) := by decide +kernel
theorem dX7_back_27 : decode cX7_back 27 = .ok (.aload_n 2, 1) := by decide +kernel
theorem dX7_back_28 : decode cX7_back 28 = .ok (.getfield 135, 3) := by decide +kernel
theorem dX7_back_31 : decode cX7_back 31 = .ok (.ifCond .ne 6, 3) := by decide +kernel
theorem dX7_back_34 : decode cX7_back 34 = .ok (.bipush (-3), 2) := by decide +kernel
theorem dX7_back_36 : decode cX7_back 36 = .ok (.ireturn, 1) := by decide +kernel
theorem dX7_back_37 : decode cX7_back 37 = .ok (.aload_n 0, 1) := by decide +kernel
theorem dX7_back_38 : decode cX7_back 38 = .ok (.iconst 0, 1) := by decide +kernel
theorem dX7_back_39 : decode cX7_back 39 = .ok (.putfield 128, 3) := by decide +kernel
theorem dX7_back_42 : decode cX7_back 42 = .ok (.aload_n 2, 1) := by decide +kernel
theorem dX7_back_43 : decode cX7_back 43 = .ok (.dup, 1) := by decide +kernel
theorem dX7_back_44 : decode cX7_back 44 = .ok (.getfield 135, 3) := by decide +kernel
theorem dX7_back_47 : decode cX7_back 47 = .ok (.iconst 1, 1) := by decide +kernel
theorem dX7_back_48 : decode cX7_back 48 = .ok (.isub, 1) := by decide +kernel
theorem dX7_back_49 : decode cX7_back 49 = .ok (.putfield 135, 3) := by decide +kernel
theorem dX7_back_52 : decode cX7_back 52 = .ok (.aload_n 2, 1) := by decide +kernel
theorem dX7_back_53 : decode cX7_back 53 = .ok (.getfield 135, 3) := by decide +kernel
theorem dX7_back_56 : decode cX7_back 56 = .ok (.ireturn, 1) := by decide +kernel
theorem dX7_read_0 : decode cX7_read 0 = .ok (.iload_n 1, 1) := by decide +kernel
theorem dX7_read_1 : decode cX7_read 1 = .ok (.iconst 4, 1) := by decide +kernel
theorem dX7_read_2 : decode cX7_read 2 = .ok (.invokestatic 73, 3) := by decide +kernel
theorem dX7_read_5 : decode cX7_read 5 = .ok (.ifCond .eq 6, 3) := by decide +kernel
theorem dX7_read_8 : decode cX7_read 8 = .ok (.bipush (-2), 2) := by decide +kernel
theorem dX7_read_10 : decode cX7_read 10 = .ok (.ireturn, 1) := by decide +kernel
theorem dX7_read_11 : decode cX7_read 11 = .ok (.aload_n 0, 1) := by decide +kernel
theorem dX7_read_12 : decode cX7_read 12 = .ok (.getfield 68, 3) := by decide +kernel
theorem dX7_read_15 : decode cX7_read 15 = .ok (.iload_n 1, 1) := by decide +kernel
theorem dX7_read_16 : decode cX7_read 16 = .ok (.aaload, 1) := by decide +kernel
theorem dX7_read_17 : decode cX7_read 17 = .ok (.astore_n 2, 1) := by decide +kernel
theorem dX7_read_18 : decode cX7_read 18 = .ok (.aload_n 2, 1) := by decide +kernel
theorem dX7_read_19 : decode cX7_read 19 = .ok (.invokevirtual 136, 3) := by decide +kernel
theorem dX7_read_22 : decode cX7_read 22 = .ok (.ifCond .eq 9, 3) := by decide +kernel
theorem dX7_read_25 : decode cX7_read 25 = .ok (.aload_n 0, 1) := by decide +kernel
theorem dX7_read_26 : decode cX7_read 26 = .ok (.iconst 1, 1) := by decide +kernel
theorem dX7_read_27 : decode cX7_read 27 = .ok (.invokevirtual 140, 3) := by decide +kernel
theorem dX7_read_30 : decode cX7_read 30 = .ok (.ireturn, 1) := by decide +kernel
theorem dX7_read_31 : decode cX7_read 31 = .ok (.iconst 0, 1) := by decide +kernel
theorem dX7_read_32 : decode cX7_read 32 = .ok (.istore_n 3, 1) := by decide +kernel
theorem dX7_read_33 : decode cX7_read 33 = .ok (.iconst 0, 1) := by decide +kernel
theorem dX7_read_34 : decode cX7_read 34 = .ok (.istore 4, 2) := by decide +kernel
theorem dX7_read_36 : decode cX7_read 36 = .ok (.iload 4, 2) := by decide +kernel
theorem dX7_read_38 : decode cX7_read 38 = .ok (.iconst 1, 1) := by decide +kernel
theorem dX7_read_39 : decode cX7_read 39 = .ok (.iadd, 1) := by decide +kernel
theorem dX7_read_40 : decode cX7_read 40 = .ok (.aload_n 2, 1) := by decide +kernel
theorem dX7_read_41 : decode cX7_read 41 = .ok (.getfield 144, 3) := by decide +kernel
theorem dX7_read_44 : decode cX7_read 44 = .ok (.if_icmp .ge 38, 3) := by decide +kernel
theorem dX7_read_47 : decode cX7_read 47 = .ok (.aload_n 0, 1) := by decide +kernel
theorem dX7_read_48 : decode cX7_read 48 = .ok (.aload_n 2, 1) := by decide +kernel
theorem dX7_read_49 : decode cX7_read 49 = .ok (.getfield 145, 3) := by decide +kernel
theorem dX7_read_52 : decode cX7_read 52 = .ok (.iload 4, 2) := by decide +kernel
theorem dX7_read_54 : decode cX7_read 54 = .ok (.iaload, 1) := by decide +kernel
theorem dX7_read_55 : decode cX7_read 55 = .ok (.aload_n 2, 1) := by decide +kernel
theorem dX7_read_56 : decode cX7_read 56 = .ok (.getfield 145, 3) := by decide +kernel
theorem dX7_read_59 : decode cX7_read 59 = .ok (.iload 4, 2) := by decide +kernel
theorem dX7_read_61 : decode cX7_read 61 = .ok (.iconst 1, 1) := by decide +kernel
theorem dX7_read_62 : decode cX7_read 62 = .ok (.iadd, 1) := by decide +kernel
theorem dX7_read_63 : decode cX7_read 63 = .ok (.iaload, 1) := by decide +kernel
theorem dX7_read_64 : decode cX7_read 64 = .ok (.invokevirtual 148, 3) := by decide +kernel
theorem dX7_read_67 : decode cX7_read 67 = .ok (.ifCond .ge 6, 3) := by decide +kernel
theorem dX7_read_70 : decode cX7_read 70 = .ok (.goto 12, 3) := by decide +kernel
theorem dX7_read_73 : decode cX7_read 73 = .ok (.iinc 3 1, 3) := by decide +kernel
theorem dX7_read_76 : decode cX7_read 76 = .ok (.iinc 4 2, 3) := by decide +kernel
theorem dX7_read_79 : decode cX7_read 79 = .ok (.goto (-43), 3) := by decide +kernel
theorem dX7_read_82 : decode cX7_read 82 = .ok (.iload_n 3, 1) := by decide +kernel
theorem dX7_read_83 : decode cX7_read 83 = .ok (.ireturn, 1) := by decide +kernel
theorem dX7_behind_0 : decode cX7_behind 0 = .ok (.iload_n 1, 1) := by decide +kernel
theorem dX7_behind_1 : decode cX7_behind 1 = .ok (.bipush 40, 2) := by decide +kernel
theorem dX7_behind_3 : decode cX7_behind 3 = .ok (.invokestatic 73, 3) := by decide +kernel
theorem dX7_behind_6 : decode cX7_behind 6 = .ok (.ifCond .ne 11, 3) := by decide +kernel
theorem dX7_behind_9 : decode cX7_behind 9 = .ok (.iload_n 2, 1) := by decide +kernel
theorem dX7_behind_10 : decode cX7_behind 10 = .ok (.iconst 3, 1) := by decide +kernel
theorem dX7_behind_11 : decode cX7_behind 11 = .ok (.invokestatic 73, 3) := by decide +kernel
theorem dX7_behind_14 : decode cX7_behind 14 = .ok (.ifCond .eq 6, 3) := by decide +kernel
theorem dX7_behind_17 : decode cX7_behind 17 = .ok (.bipush (-2), 2) := by decide +kernel
theorem dX7_behind_19 : decode cX7_behind 19 = .ok (.ireturn, 1) := by decide +kernel
theorem dX7_behind_20 : decode cX7_behind 20 = .ok (.aload_n 0, 1) := by decide +kernel
theorem dX7_behind_21 : decode cX7_behind 21 = .ok (.invokevirtual 151, 3) := by decide +kernel
theorem dX7_behind_24 : decode cX7_behind 24 = .ok (.astore_n 3, 1) := by decide +kernel
theorem dX7_behind_25 : decode cX7_behind 25 = .ok (.iload_n 2, 1) := by decide +kernel
theorem dX7_behind_26 : decode cX7_behind 26 = .ok (.ifCond .ne 10, 3) := by decide +kernel
theorem dX7_behind_29 : decode cX7_behind 29 = .ok (.aload_n 3, 1) := by decide +kernel
theorem dX7_behind_30 : decode cX7_behind 30 = .ok (.getfield 155, 3) := by decide +kernel
theorem dX7_behind_33 : decode cX7_behind 33 = .ok (.iload_n 1, 1) := by decide +kernel
theorem dX7_behind_34 : decode cX7_behind 34 = .ok (.iaload, 1) := by decide +kernel
theorem dX7_behind_35 : decode cX7_behind 35 = .ok (.ireturn, 1) := by decide +kernel
theorem dX7_behind_36 : decode cX7_behind 36 = .ok (.iload_n 2, 1) := by decide +kernel
theorem dX7_behind_37 : decode cX7_behind 37 = .ok (.iconst 1, 1) := by decide +kernel
theorem dX7_behind_38 : decode cX7_behind 38 = .ok (.if_icmp .ne 12, 3) := by decide +kernel
theorem dX7_behind_41 : decode cX7_behind 41 = .ok (.aload_n 3, 1) := by decide +kernel
theorem dX7_behind_42 : decode cX7_behind 42 = .ok (.getfield 158, 3) := by decide +kernel
theorem dX7_behind_45 : decode cX7_behind 45 = .ok (.iload_n 1, 1) := by decide +kernel
theorem dX7_behind_46 : decode cX7_behind 46 = .ok (.iaload, 1) := by decide +kernel
theorem dX7_behind_47 : decode cX7_behind 47 = .ok (.goto 9, 3) := by decide +kernel
theorem dX7_behind_50 : decode cX7_behind 50 = .ok (.aload_n 3, 1) := by decide +kernel
theorem dX7_behind_51 : decode cX7_behind 51 = .ok (.getfield 161, 3) := by decide +kernel
theorem dX7_behind_54 : decode cX7_behind 54 = .ok (.iload_n 1, 1) := by decide +kernel
theorem dX7_behind_55 : decode cX7_behind 55 = .ok (.iaload, 1) := by decide +kernel
theorem dX7_behind_56 : decode cX7_behind 56 = .ok (.ireturn, 1) := by decide +kernel
theorem dX7_gone_0 : decode cX7_gone 0 = .ok (.aload_n 0, 1) := by decide +kernel
theorem dX7_gone_1 : decode cX7_gone 1 = .ok (.iload_n 1, 1) := by decide +kernel
theorem dX7_gone_2 : decode cX7_gone 2 = .ok (.invokevirtual 102, 3) := by decide +kernel
theorem dX7_gone_5 : decode cX7_gone 5 = .ok (.ifCond .ne 11, 3) := by decide +kernel
theorem dX7_gone_8 : decode cX7_gone 8 = .ok (.iload_n 2, 1) := by decide +kernel
theorem dX7_gone_9 : decode cX7_gone 9 = .ok (.iconst 2, 1) := by decide +kernel
theorem dX7_gone_10 : decode cX7_gone 10 = .ok (.invokestatic 73, 3) := by decide +kernel
theorem dX7_gone_13 : decode cX7_gone 13 = .ok (.ifCond .eq 6, 3) := by decide +kernel
theorem dX7_gone_16 : decode cX7_gone 16 = .ok (.bipush (-2), 2) := by decide +kernel
theorem dX7_gone_18 : decode cX7_gone 18 = .ok (.ireturn, 1) := by decide +kernel
theorem dX7_gone_19 : decode cX7_gone 19 = .ok (.aload_n 0, 1) := by decide +kernel
theorem dX7_gone_20 : decode cX7_gone 20 = .ok (.invokevirtual 151, 3) := by decide +kernel
theorem dX7_gone_23 : decode cX7_gone 23 = .ok (.astore_n 3, 1) := by decide +kernel
theorem dX7_gone_24 : decode cX7_gone 24 = .ok (.iload_n 2, 1) := by decide +kernel
theorem dX7_gone_25 : decode cX7_gone 25 = .ok (.ifCond .ne 12, 3) := by decide +kernel
theorem dX7_gone_28 : decode cX7_gone 28 = .ok (.aload_n 3, 1) := by decide +kernel
theorem dX7_gone_29 : decode cX7_gone 29 = .ok (.getfield 164, 3) := by decide +kernel
theorem dX7_gone_32 : decode cX7_gone 32 = .ok (.iload_n 1, 1) := by decide +kernel
theorem dX7_gone_33 : decode cX7_gone 33 = .ok (.iaload, 1) := by decide +kernel
theorem dX7_gone_34 : decode cX7_gone 34 = .ok (.goto 9, 3) := by decide +kernel
theorem dX7_gone_37 : decode cX7_gone 37 = .ok (.aload_n 3, 1) := by decide +kernel
theorem dX7_gone_38 : decode cX7_gone 38 = .ok (.getfield 167, 3) := by decide +kernel
theorem dX7_gone_41 : decode cX7_gone 41 = .ok (.iload_n 1, 1) := by decide +kernel
theorem dX7_gone_42 : decode cX7_gone 42 = .ok (.iaload, 1) := by decide +kernel
theorem dX7_gone_43 : decode cX7_gone 43 = .ok (.ireturn, 1) := by decide +kernel
theorem dX7_empty_0 : decode cX7_empty 0 = .ok (.aload_n 0, 1) := by decide +kernel
theorem dX7_empty_1 : decode cX7_empty 1 = .ok (.invokevirtual 151, 3) := by decide +kernel
theorem dX7_empty_4 : decode cX7_empty 4 = .ok (.getfield 170, 3) := by decide +kernel
theorem dX7_empty_7 : decode cX7_empty 7 = .ok (.lstore_n 1, 1) := by decide +kernel
theorem dX7_empty_8 : decode cX7_empty 8 = .ok (.iconst 1, 1) := by decide +kernel
theorem dX7_empty_9 : decode cX7_empty 9 = .ok (.aload_n 0, 1) := by decide +kernel
theorem dX7_empty_10 : decode cX7_empty 10 = .ok (.getfield 37, 3) := by decide +kernel
theorem dX7_empty_13 : decode cX7_empty 13 = .ok (.getfield 135, 3) := by decide +kernel
theorem dX7_empty_16 : decode cX7_empty 16 = .ok (.ishl, 1) := by decide +kernel
theorem dX7_empty_17 : decode cX7_empty 17 = .ok (.iconst 1, 1) := by decide +kernel
theorem dX7_empty_18 : decode cX7_empty 18 = .ok (.isub, 1) := by decide +kernel
theorem dX7_empty_19 : decode cX7_empty 19 = .ok (.istore_n 3, 1) := by decide +kernel
theorem dX7_empty_20 : decode cX7_empty 20 = .ok (.iload_n 3, 1) := by decide +kernel
theorem dX7_empty_21 : decode cX7_empty 21 = .ok (.lload_n 1, 1) := by decide +kernel
theorem dX7_empty_22 : decode cX7_empty 22 = .ok (.l2i, 1) := by decide +kernel
theorem dX7_empty_23 : decode cX7_empty 23 = .ok (.iconst (-1), 1) := by decide +kernel
theorem dX7_empty_24 : decode cX7_empty 24 = .ok (.ixor, 1) := by decide +kernel
theorem dX7_empty_25 : decode cX7_empty 25 = .ok (.iand, 1) := by decide +kernel
theorem dX7_empty_26 : decode cX7_empty 26 = .ok (.ireturn, 1) := by decide +kernel
theorem dX7_sale_0 : decode cX7_sale 0 = .ok (.aload_n 0, 1) := by decide +kernel
theorem dX7_sale_1 : decode cX7_sale 1 = .ok (.invokevirtual 151, 3) := by decide +kernel
theorem dX7_sale_4 : decode cX7_sale 4 = .ok (.getfield 174, 3) := by decide +kernel
theorem dX7_sale_7 : decode cX7_sale 7 = .ok (.istore_n 1, 1) := by decide +kernel
theorem dX7_sale_8 : decode cX7_sale 8 = .ok (.iconst 0, 1) := by decide +kernel
theorem dX7_sale_9 : decode cX7_sale 9 = .ok (.istore_n 2, 1) := by decide +kernel
theorem dX7_sale_10 : decode cX7_sale 10 = .ok (.iconst 0, 1) := by decide +kernel
theorem dX7_sale_11 : decode cX7_sale 11 = .ok (.istore_n 3, 1) := by decide +kernel
theorem dX7_sale_12 : decode cX7_sale 12 = .ok (.iload_n 3, 1) := by decide +kernel
theorem dX7_sale_13 : decode cX7_sale 13 = .ok (.aload_n 0, 1) := by decide +kernel
theorem dX7_sale_14 : decode cX7_sale 14 = .ok (.getfield 12, 3) := by decide +kernel
theorem dX7_sale_17 : decode cX7_sale 17 = .ok (.getfield 177, 3) := by decide +kernel
theorem dX7_sale_20 : decode cX7_sale 20 = .ok (.if_icmp .ge 30, 3) := by decide +kernel
theorem dX7_sale_23 : decode cX7_sale 23 = .ok (.iload_n 1, 1) := by decide +kernel
theorem dX7_sale_24 : decode cX7_sale 24 = .ok (.iload_n 3, 1) := by decide +kernel
theorem dX7_sale_25 : decode cX7_sale 25 = .ok (.ishr, 1) := by decide +kernel
theorem dX7_sale_26 : decode cX7_sale 26 = .ok (.iconst 1, 1) := by decide +kernel
theorem dX7_sale_27 : decode cX7_sale 27 = .ok (.iand, 1) := by decide +kernel
theorem dX7_sale_28 : decode cX7_sale 28 = .ok (.iconst 1, 1) := by decide +kernel
theorem dX7_sale_29 : decode cX7_sale 29 = .ok (.if_icmp .ne 15, 3) := by decide +kernel
theorem dX7_sale_32 : decode cX7_sale 32 = .ok (.iload_n 2, 1) := by decide +kernel
theorem dX7_sale_33 : decode cX7_sale 33 = .ok (.aload_n 0, 1) := by decide +kernel
theorem dX7_sale_34 : decode cX7_sale 34 = .ok (.getfield 12, 3) := by decide +kernel
theorem dX7_sale_37 : decode cX7_sale 37 = .ok (.getfield 110, 3) := by decide +kernel
theorem dX7_sale_40 : decode cX7_sale 40 = .ok (.iload_n 3, 1) := by decide +kernel
theorem dX7_sale_41 : decode cX7_sale 41 = .ok (.iaload, 1) := by decide +kernel
theorem dX7_sale_42 : decode cX7_sale 42 = .ok (.iadd, 1) := by decide +kernel
theorem dX7_sale_43 : decode cX7_sale 43 = .ok (.istore_n 2, 1) := by decide +kernel
theorem dX7_sale_44 : decode cX7_sale 44 = .ok (.iinc 3 1, 3) := by decide +kernel
theorem dX7_sale_47 : decode cX7_sale 47 = .ok (.goto (-35), 3) := by decide +kernel
theorem dX7_sale_50 : decode cX7_sale 50 = .ok (.iload_n 2, 1) := by decide +kernel
theorem dX7_sale_51 : decode cX7_sale 51 = .ok (.ireturn, 1) := by decide +kernel
theorem dX7_saint_0 : decode cX7_saint 0 = .ok (.aload_n 0, 1) := by decide +kernel
theorem dX7_saint_1 : decode cX7_saint 1 = .ok (.invokevirtual 151, 3) := by decide +kernel
theorem dX7_saint_4 : decode cX7_saint 4 = .ok (.getfield 180, 3) := by decide +kernel
theorem dX7_saint_7 : decode cX7_saint 7 = .ok (.ireturn, 1) := by decide +kernel
theorem dX7_fitting_0 : decode cX7_fitting 0 = .ok (.iload_n 1, 1) := by decide +kernel
theorem dX7_fitting_1 : decode cX7_fitting 1 = .ok (.ifCond .ne 25, 3) := by decide +kernel
theorem dX7_fitting_4 : decode cX7_fitting 4 = .ok (.aload_n 0, 1) := by decide +kernel
theorem dX7_fitting_5 : decode cX7_fitting 5 = .ok (.iload_n 2, 1) := by decide +kernel
theorem dX7_fitting_6 : decode cX7_fitting 6 = .ok (.invokevirtual 113, 3) := by decide +kernel
theorem dX7_fitting_9 : decode cX7_fitting 9 = .ok (.ifCond .eq 8, 3) := by decide +kernel
theorem dX7_fitting_12 : decode cX7_fitting 12 = .ok (.bipush (-2), 2) := by decide +kernel
theorem dX7_fitting_14 : decode cX7_fitting 14 = .ok (.goto 11, 3) := by decide +kernel
theorem dX7_fitting_17 : decode cX7_fitting 17 = .ok (.aload_n 0, 1) := by decide +kernel
theorem dX7_fitting_18 : decode cX7_fitting 18 = .ok (.getfield 26, 3) := by decide +kernel
theorem dX7_fitting_21 : decode cX7_fitting 21 = .ok (.iload_n 2, 1) := by decide +kernel
theorem dX7_fitting_22 : decode cX7_fitting 22 = .ok (.invokevirtual 183, 3) := by decide +kernel
theorem dX7_fitting_25 : decode cX7_fitting 25 = .ok (.ireturn, 1) := by decide +kernel
theorem dX7_fitting_26 : decode cX7_fitting 26 = .ok (.iload_n 1, 1) := by decide +kernel
theorem dX7_fitting_27 : decode cX7_fitting 27 = .ok (.iconst 1, 1) := by decide +kernel
theorem dX7_fitting_28 : decode cX7_fitting 28 = .ok (.if_icmp .ne 25, 3) := by decide +kernel
theorem dX7_fitting_31 : decode cX7_fitting 31 = .ok (.aload_n 0, 1) := by decide +kernel
theorem dX7_fitting_32 : decode cX7_fitting 32 = .ok (.iload_n 2, 1) := by decide +kernel
theorem dX7_fitting_33 : decode cX7_fitting 33 = .ok (.invokevirtual 102, 3) := by decide +kernel
theorem dX7_fitting_36 : decode cX7_fitting 36 = .ok (.ifCond .eq 8, 3) := by decide +kernel
theorem dX7_fitting_39 : decode cX7_fitting 39 = .ok (.bipush (-2), 2) := by decide +kernel
theorem dX7_fitting_41 : decode cX7_fitting 41 = .ok (.goto 11, 3) := by decide +kernel
theorem dX7_fitting_44 : decode cX7_fitting 44 = .ok (.aload_n 0, 1) := by decide +kernel
theorem dX7_fitting_45 : decode cX7_fitting 45 = .ok (.getfield 26, 3) := by decide +kernel
theorem dX7_fitting_48 : decode cX7_fitting 48 = .ok (.iload_n 2, 1) := by decide +kernel
theorem dX7_fitting_49 : decode cX7_fitting 49 = .ok (.invokevirtual 186, 3) := by decide +kernel
theorem dX7_fitting_52 : decode cX7_fitting 52 = .ok (.ireturn, 1) := by decide +kernel
theorem dX7_fitting_53 : decode cX7_fitting 53 = .ok (.bipush (-2), 2) := by decide +kernel
theorem dX7_fitting_55 : decode cX7_fitting 55 = .ok (.ireturn, 1) := by decide +kernel
theorem dX7_match_0 : decode cX7_match 0 = .ok (.iload_n 1, 1) := by decide +kernel
theorem dX7_match_1 : decode cX7_match 1 = .ok (.bipush (-2), 2) := by decide +kernel
theorem dX7_match_3 : decode cX7_match 3 = .ok (.if_icmp .lt 9, 3) := by decide +kernel
theorem dX7_match_6 : decode cX7_match 6 = .ok (.iload_n 1, 1) := by decide +kernel
theorem dX7_match_7 : decode cX7_match 7 = .ok (.bipush 8, 2) := by decide +kernel
theorem dX7_match_9 : decode cX7_match 9 = .ok (.if_icmp .lt 6, 3) := by decide +kernel
theorem dX7_match_12 : decode cX7_match 12 = .ok (.bipush (-2), 2) := by decide +kernel
theorem dX7_match_14 : decode cX7_match 14 = .ok (.ireturn, 1) := by decide +kernel
theorem dX7_match_15 : decode cX7_match 15 = .ok (.aload_n 0, 1) := by decide +kernel
theorem dX7_match_16 : decode cX7_match 16 = .ok (.invokevirtual 189, 3) := by decide +kernel
theorem dX7_match_19 : decode cX7_match 19 = .ok (.getfield 193, 3) := by decide +kernel
theorem dX7_match_22 : decode cX7_match 22 = .ok (.lstore_n 2, 1) := by decide +kernel
theorem dX7_match_23 : decode cX7_match 23 = .ok (.iload_n 1, 1) := by decide +kernel
theorem dX7_match_24 : decode cX7_match 24 = .ok (.bipush (-2), 2) := by decide +kernel
theorem dX7_match_26 : decode cX7_match 26 = .ok (.if_icmp .ne 8, 3) := by decide +kernel
theorem dX7_match_29 : decode cX7_match 29 = .ok (.lload_n 2, 1) := by decide +kernel
theorem dX7_match_30 : decode cX7_match 30 = .ok (.invokestatic 196, 3) := by decide +kernel
theorem dX7_match_33 : decode cX7_match 33 = .ok (.ireturn, 1) := by decide +kernel
theorem dX7_match_34 : decode cX7_match 34 = .ok (.iload_n 1, 1) := by decide +kernel
theorem dX7_match_35 : decode cX7_match 35 = .ok (.iconst (-1), 1) := by decide +kernel
theorem dX7_match_36 : decode cX7_match 36 = .ok (.if_icmp .ne 10, 3) := by decide +kernel
theorem dX7_match_39 : decode cX7_match 39 = .ok (.lload_n 2, 1) := by decide +kernel
theorem dX7_match_40 : decode cX7_match 40 = .ok (.invokestatic 200, 3) := by decide +kernel
theorem dX7_match_43 : decode cX7_match 43 = .ok (.goto 8, 3) := by decide +kernel
theorem dX7_match_46 : decode cX7_match 46 = .ok (.lload_n 2, 1) := by decide +kernel
theorem dX7_match_47 : decode cX7_match 47 = .ok (.iload_n 1, 1) := by decide +kernel
theorem dX7_match_48 : decode cX7_match 48 = .ok (.invokestatic 203, 3) := by decide +kernel
theorem dX7_match_51 : decode cX7_match 51 = .ok (.ireturn, 1) := by decide +kernel
theorem dX7_ask_0 : decode cX7_ask 0 = .ok (.aload_n 0, 1) := by decide +kernel
theorem dX7_ask_1 : decode cX7_ask 1 = .ok (.iload_n 1, 1) := by decide +kernel
theorem dX7_ask_2 : decode cX7_ask 2 = .ok (.invokevirtual 113, 3) := by decide +kernel
theorem dX7_ask_5 : decode cX7_ask 5 = .ok (.ifCond .eq 6, 3) := by decide +kernel
theorem dX7_ask_8 : decode cX7_ask 8 = .ok (.bipush (-2), 2) := by decide +kernel
theorem dX7_ask_10 : decode cX7_ask 10 = .ok (.ireturn, 1) := by decide +kernel
theorem dX7_ask_11 : decode cX7_ask 11 = .ok (.aload_n 0, 1) := by decide +kernel
theorem dX7_ask_12 : decode cX7_ask 12 = .ok (.getfield 26, 3) := by decide +kernel
theorem dX7_ask_15 : decode cX7_ask 15 = .ok (.iload_n 1, 1) := by decide +kernel
theorem dX7_ask_16 : decode cX7_ask 16 = .ok (.invokevirtual 183, 3) := by decide +kernel
theorem dX7_ask_19 : decode cX7_ask 19 = .ok (.istore_n 2, 1) := by decide +kernel
theorem dX7_ask_20 : decode cX7_ask 20 = .ok (.iconst (-1), 1) := by decide +kernel
theorem dX7_ask_21 : decode cX7_ask 21 = .ok (.istore_n 3, 1) := by decide +kernel
theorem dX7_ask_22 : decode cX7_ask 22 = .ok (.bipush 9, 2) := by decide +kernel
theorem dX7_ask_24 : decode cX7_ask 24 = .ok (.istore 4, 2) := by decide +kernel
theorem dX7_ask_26 : decode cX7_ask 26 = .ok (.iconst 0, 1) := by decide +kernel
theorem dX7_ask_27 : decode cX7_ask 27 = .ok (.istore 5, 2) := by decide +kernel
theorem dX7_ask_29 : decode cX7_ask 29 = .ok (.iload 5, 2) := by decide +kernel
theorem dX7_ask_31 : decode cX7_ask 31 = .ok (.iconst 4, 1) := by decide +kernel
theorem dX7_ask_32 : decode cX7_ask 32 = .ok (.if_icmp .ge 70, 3) := by decide +kernel
theorem dX7_ask_35 : decode cX7_ask 35 = .ok (.aload_n 0, 1) := by decide +kernel
theorem dX7_ask_36 : decode cX7_ask 36 = .ok (.getfield 18, 3) := by decide +kernel
theorem dX7_ask_39 : decode cX7_ask 39 = .ok (.getfield 116, 3) := by decide +kernel
theorem dX7_ask_42 : decode cX7_ask 42 = .ok (.iload_n 1, 1) := by decide +kernel
theorem dX7_ask_43 : decode cX7_ask 43 = .ok (.iaload, 1) := by decide +kernel
theorem dX7_ask_44 : decode cX7_ask 44 = .ok (.iload 5, 2) := by decide +kernel
theorem dX7_ask_46 : decode cX7_ask 46 = .ok (.ishr, 1) := by decide +kernel
theorem dX7_ask_47 : decode cX7_ask 47 = .ok (.iconst 1, 1) := by decide +kernel
theorem dX7_ask_48 : decode cX7_ask 48 = .ok (.iand, 1) := by decide +kernel
theorem dX7_ask_49 : decode cX7_ask 49 = .ok (.iconst 1, 1) := by decide +kernel
theorem dX7_ask_50 : decode cX7_ask 50 = .ok (.if_icmp .ne 6, 3) := by decide +kernel
theorem dX7_ask_53 : decode cX7_ask 53 = .ok (.goto 43, 3) := by decide +kernel
theorem dX7_ask_56 : decode cX7_ask 56 = .ok (.aload_n 0, 1) := by decide +kernel
theorem dX7_ask_57 : decode cX7_ask 57 = .ok (.getfield 26, 3) := by decide +kernel
theorem dX7_ask_60 : decode cX7_ask 60 = .ok (.iload_n 2, 1) := by decide +kernel
theorem dX7_ask_61 : decode cX7_ask 61 = .ok (.iload 5, 2) := by decide +kernel
theorem dX7_ask_63 : decode cX7_ask 63 = .ok (.invokevirtual 207, 3) := by decide +kernel
theorem dX7_ask_66 : decode cX7_ask 66 = .ok (.istore 6, 2) := by decide +kernel
theorem dX7_ask_68 : decode cX7_ask 68 = .ok (.iload 6, 2) := by decide +kernel
theorem dX7_ask_70 : decode cX7_ask 70 = .ok (.iload_n 2, 1) := by decide +kernel
theorem dX7_ask_71 : decode cX7_ask 71 = .ok (.invokestatic 210, 3) := by decide +kernel
theorem dX7_ask_74 : decode cX7_ask 74 = .ok (.iload 6, 2) := by decide +kernel
theorem dX7_ask_76 : decode cX7_ask 76 = .ok (.isub, 1) := by decide +kernel
theorem dX7_ask_77 : decode cX7_ask 77 = .ok (.invokestatic 215, 3) := by decide +kernel
theorem dX7_ask_80 : decode cX7_ask 80 = .ok (.istore 7, 2) := by decide +kernel
theorem dX7_ask_82 : decode cX7_ask 82 = .ok (.iload 7, 2) := by decide +kernel
theorem dX7_ask_84 : decode cX7_ask 84 = .ok (.iload 4, 2) := by decide +kernel
theorem dX7_ask_86 : decode cX7_ask 86 = .ok (.if_icmp .ge 10, 3) := by decide +kernel
theorem dX7_ask_89 : decode cX7_ask 89 = .ok (.iload 7, 2) := by decide +kernel
theorem dX7_ask_91 : decode cX7_ask 91 = .ok (.istore 4, 2) := by decide +kernel
theorem dX7_ask_93 : decode cX7_ask 93 = .ok (.iload 5, 2) := by decide +kernel
theorem dX7_ask_95 : decode cX7_ask 95 = .ok (.istore_n 3, 1) := by decide +kernel
theorem dX7_ask_96 : decode cX7_ask 96 = .ok (.iinc 5 1, 3) := by decide +kernel
theorem dX7_ask_99 : decode cX7_ask 99 = .ok (.goto (-70), 3) := by decide +kernel
theorem dX7_ask_102 : decode cX7_ask 102 = .ok (.iload_n 3, 1) := by decide +kernel
theorem dX7_ask_103 : decode cX7_ask 103 = .ok (.ireturn, 1) := by decide +kernel
theorem dX7_lie_0 : decode cX7_lie 0 = .ok (.aload_n 0, 1) := by decide +kernel
theorem dX7_lie_1 : decode cX7_lie 1 = .ok (.iload_n 1, 1) := by decide +kernel
theorem dX7_lie_2 : decode cX7_lie 2 = .ok (.invokevirtual 102, 3) := by decide +kernel
theorem dX7_lie_5 : decode cX7_lie 5 = .ok (.ifCond .eq 6, 3) := by decide +kernel
theorem dX7_lie_8 : decode cX7_lie 8 = .ok (.bipush (-2), 2) := by decide +kernel
theorem dX7_lie_10 : decode cX7_lie 10 = .ok (.ireturn, 1) := by decide +kernel
theorem dX7_lie_11 : decode cX7_lie 11 = .ok (.iconst (-1), 1) := by decide +kernel
theorem dX7_lie_12 : decode cX7_lie 12 = .ok (.istore_n 2, 1) := by decide +kernel
theorem dX7_lie_13 : decode cX7_lie 13 = .ok (.iconst 5, 1) := by decide +kernel
theorem dX7_lie_14 : decode cX7_lie 14 = .ok (.istore_n 3, 1) := by decide +kernel
theorem dX7_lie_15 : decode cX7_lie 15 = .ok (.iconst 0, 1) := by decide +kernel
theorem dX7_lie_16 : decode cX7_lie 16 = .ok (.istore 4, 2) := by decide +kernel
theorem dX7_lie_18 : decode cX7_lie 18 = .ok (.iload 4, 2) := by decide +kernel
theorem dX7_lie_20 : decode cX7_lie 20 = .ok (.bipush 16, 2) := by decide +kernel
theorem dX7_lie_22 : decode cX7_lie 22 = .ok (.if_icmp .ge 53, 3) := by decide +kernel
theorem dX7_lie_25 : decode cX7_lie 25 = .ok (.iload 4, 2) := by decide +kernel
theorem dX7_lie_27 : decode cX7_lie 27 = .ok (.invokestatic 210, 3) := by decide +kernel
theorem dX7_lie_30 : decode cX7_lie 30 = .ok (.istore 5, 2) := by decide +kernel
theorem dX7_lie_32 : decode cX7_lie 32 = .ok (.iload 5, 2) := by decide +kernel
theorem dX7_lie_34 : decode cX7_lie 34 = .ok (.aload_n 0, 1) := by decide +kernel
theorem dX7_lie_35 : decode cX7_lie 35 = .ok (.getfield 26, 3) := by decide +kernel
theorem dX7_lie_38 : decode cX7_lie 38 = .ok (.getfield 119, 3) := by decide +kernel
theorem dX7_lie_41 : decode cX7_lie 41 = .ok (.if_icmp .lt 28, 3) := by decide +kernel
theorem dX7_lie_44 : decode cX7_lie 44 = .ok (.iload 5, 2) := by decide +kernel
theorem dX7_lie_46 : decode cX7_lie 46 = .ok (.iload_n 3, 1) := by decide +kernel
theorem dX7_lie_47 : decode cX7_lie 47 = .ok (.if_icmp .ge 22, 3) := by decide +kernel
theorem dX7_lie_50 : decode cX7_lie 50 = .ok (.aload_n 0, 1) := by decide +kernel
theorem dX7_lie_51 : decode cX7_lie 51 = .ok (.getfield 26, 3) := by decide +kernel
theorem dX7_lie_54 : decode cX7_lie 54 = .ok (.iload_n 1, 1) := by decide +kernel
theorem dX7_lie_55 : decode cX7_lie 55 = .ok (.iload 4, 2) := by decide +kernel
theorem dX7_lie_57 : decode cX7_lie 57 = .ok (.invokevirtual 220, 3) := by decide +kernel
theorem dX7_lie_60 : decode cX7_lie 60 = .ok (.ifCond .eq 9, 3) := by decide +kernel
theorem dX7_lie_63 : decode cX7_lie 63 = .ok (.iload 5, 2) := by decide +kernel
theorem dX7_lie_65 : decode cX7_lie 65 = .ok (.istore_n 3, 1) := by decide +kernel
theorem dX7_lie_66 : decode cX7_lie 66 = .ok (.iload 4, 2) := by decide +kernel
theorem dX7_lie_68 : decode cX7_lie 68 = .ok (.istore_n 2, 1) := by decide +kernel
theorem dX7_lie_69 : decode cX7_lie 69 = .ok (.iinc 4 1, 3) := by decide +kernel
theorem dX7_lie_72 : decode cX7_lie 72 = .ok (.goto (-54), 3) := by decide +kernel
theorem dX7_lie_75 : decode cX7_lie 75 = .ok (.iload_n 2, 1) := by decide +kernel
theorem dX7_lie_76 : decode cX7_lie 76 = .ok (.ireturn, 1) := by decide +kernel
theorem dX7_guess_0 : decode cX7_guess 0 = .ok (.aload_n 0, 1) := by decide +kernel
theorem dX7_guess_1 : decode cX7_guess 1 = .ok (.iload_n 1, 1) := by decide +kernel
theorem dX7_guess_2 : decode cX7_guess 2 = .ok (.invokevirtual 102, 3) := by decide +kernel
theorem dX7_guess_5 : decode cX7_guess 5 = .ok (.ifCond .ne 11, 3) := by decide +kernel
theorem dX7_guess_8 : decode cX7_guess 8 = .ok (.iload_n 2, 1) := by decide +kernel
theorem dX7_guess_9 : decode cX7_guess 9 = .ok (.iconst 2, 1) := by decide +kernel
theorem dX7_guess_10 : decode cX7_guess 10 = .ok (.invokestatic 73, 3) := by decide +kernel
theorem dX7_guess_13 : decode cX7_guess 13 = .ok (.ifCond .eq 7, 3) := by decide +kernel
theorem dX7_guess_16 : decode cX7_guess 16 = .ok (.ldc2_w 223, 3) := by decide +kernel
theorem dX7_guess_19 : decode cX7_guess 19 = .ok (.lreturn, 1) := by decide +kernel
theorem dX7_guess_20 : decode cX7_guess 20 = .ok (.aload_n 0, 1) := by decide +kernel
theorem dX7_guess_21 : decode cX7_guess 21 = .ok (.getfield 26, 3) := by decide +kernel
theorem dX7_guess_24 : decode cX7_guess 24 = .ok (.iload_n 1, 1) := by decide +kernel
theorem dX7_guess_25 : decode cX7_guess 25 = .ok (.aload_n 0, 1) := by decide +kernel
theorem dX7_guess_26 : decode cX7_guess 26 = .ok (.getfield 26, 3) := by decide +kernel
theorem dX7_guess_29 : decode cX7_guess 29 = .ok (.getfield 122, 3) := by decide +kernel
theorem dX7_guess_32 : decode cX7_guess 32 = .ok (.invokevirtual 225, 3) := by decide +kernel
theorem dX7_guess_35 : decode cX7_guess 35 = .ok (.istore_n 3, 1) := by decide +kernel
theorem dX7_guess_36 : decode cX7_guess 36 = .ok (.aload_n 0, 1) := by decide +kernel
theorem dX7_guess_37 : decode cX7_guess 37 = .ok (.getfield 26, 3) := by decide +kernel
theorem dX7_guess_40 : decode cX7_guess 40 = .ok (.iload_n 3, 1) := by decide +kernel
theorem dX7_guess_41 : decode cX7_guess 41 = .ok (.invokevirtual 228, 3) := by decide +kernel
theorem dX7_guess_44 : decode cX7_guess 44 = .ok (.istore 4, 2) := by decide +kernel
theorem dX7_guess_46 : decode cX7_guess 46 = .ok (.iload_n 3, 1) := by decide +kernel
theorem dX7_guess_47 : decode cX7_guess 47 = .ok (.invokestatic 210, 3) := by decide +kernel
theorem dX7_guess_50 : decode cX7_guess 50 = .ok (.istore 5, 2) := by decide +kernel
theorem dX7_guess_52 : decode cX7_guess 52 = .ok (.iload 4, 2) := by decide +kernel
theorem dX7_guess_54 : decode cX7_guess 54 = .ok (.iload 5, 2) := by decide +kernel
theorem dX7_guess_56 : decode cX7_guess 56 = .ok (.invokestatic 231, 3) := by decide +kernel
theorem dX7_guess_59 : decode cX7_guess 59 = .ok (.istore 6, 2) := by decide +kernel
theorem dX7_guess_61 : decode cX7_guess 61 = .ok (.iload_n 2, 1) := by decide +kernel
theorem dX7_guess_62 : decode cX7_guess 62 = .ok (.ifCond .ne 12, 3) := by decide +kernel
theorem dX7_guess_65 : decode cX7_guess 65 = .ok (.iload 4, 2) := by decide +kernel
theorem dX7_guess_67 : decode cX7_guess 67 = .ok (.iload 6, 2) := by decide +kernel
theorem dX7_guess_69 : decode cX7_guess 69 = .ok (.idiv, 1) := by decide +kernel
theorem dX7_guess_70 : decode cX7_guess 70 = .ok (.i2l, 1) := by decide +kernel
theorem dX7_guess_71 : decode cX7_guess 71 = .ok (.goto 9, 3) := by decide +kernel
theorem dX7_guess_74 : decode cX7_guess 74 = .ok (.iload 5, 2) := by decide +kernel
theorem dX7_guess_76 : decode cX7_guess 76 = .ok (.iload 6, 2) := by decide +kernel
theorem dX7_guess_78 : decode cX7_guess 78 = .ok (.idiv, 1) := by decide +kernel
theorem dX7_guess_79 : decode cX7_guess 79 = .ok (.i2l, 1) := by decide +kernel
theorem dX7_guess_80 : decode cX7_guess 80 = .ok (.lreturn, 1) := by decide +kernel
theorem dX7_guard_0 : decode cX7_guard 0 = .ok (.iload_n 1, 1) := by decide +kernel
theorem dX7_guard_1 : decode cX7_guard 1 = .ok (.bipush 17, 2) := by decide +kernel
theorem dX7_guard_3 : decode cX7_guard 3 = .ok (.invokestatic 73, 3) := by decide +kernel
theorem dX7_guard_6 : decode cX7_guard 6 = .ok (.ifCond .eq 6, 3) := by decide +kernel
theorem dX7_guard_9 : decode cX7_guard 9 = .ok (.bipush (-2), 2) := by decide +kernel
theorem dX7_guard_11 : decode cX7_guard 11 = .ok (.ireturn, 1) := by decide +kernel
theorem dX7_guard_12 : decode cX7_guard 12 = .ok (.iconst (-1), 1) := by decide +kernel
theorem dX7_guard_13 : decode cX7_guard 13 = .ok (.istore_n 2, 1) := by decide +kernel
theorem dX7_guard_14 : decode cX7_guard 14 = .ok (.iconst 5, 1) := by decide +kernel
theorem dX7_guard_15 : decode cX7_guard 15 = .ok (.istore_n 3, 1) := by decide +kernel
theorem dX7_guard_16 : decode cX7_guard 16 = .ok (.iconst 0, 1) := by decide +kernel
theorem dX7_guard_17 : decode cX7_guard 17 = .ok (.istore 4, 2) := by decide +kernel
theorem dX7_guard_19 : decode cX7_guard 19 = .ok (.iload 4, 2) := by decide +kernel
theorem dX7_guard_21 : decode cX7_guard 21 = .ok (.bipush 16, 2) := by decide +kernel
theorem dX7_guard_23 : decode cX7_guard 23 = .ok (.if_icmp .ge 38, 3) := by decide +kernel
theorem dX7_guard_26 : decode cX7_guard 26 = .ok (.iload 4, 2) := by decide +kernel
theorem dX7_guard_28 : decode cX7_guard 28 = .ok (.invokestatic 210, 3) := by decide +kernel
theorem dX7_guard_31 : decode cX7_guard 31 = .ok (.istore 5, 2) := by decide +kernel
theorem dX7_guard_33 : decode cX7_guard 33 = .ok (.iload 5, 2) := by decide +kernel
theorem dX7_guard_35 : decode cX7_guard 35 = .ok (.iload_n 3, 1) := by decide +kernel
theorem dX7_guard_36 : decode cX7_guard 36 = .ok (.if_icmp .ge 19, 3) := by decide +kernel
theorem dX7_guard_39 : decode cX7_guard 39 = .ok (.aload_n 0, 1) := by decide +kernel
theorem dX7_guard_40 : decode cX7_guard 40 = .ok (.iload 4, 2) := by decide +kernel
theorem dX7_guard_42 : decode cX7_guard 42 = .ok (.iload_n 1, 1) := by decide +kernel
theorem dX7_guard_43 : decode cX7_guard 43 = .ok (.invokevirtual 234, 3) := by decide +kernel
theorem dX7_guard_46 : decode cX7_guard 46 = .ok (.ifCond .eq 9, 3) := by decide +kernel
theorem dX7_guard_49 : decode cX7_guard 49 = .ok (.iload 5, 2) := by decide +kernel
theorem dX7_guard_51 : decode cX7_guard 51 = .ok (.istore_n 3, 1) := by decide +kernel
theorem dX7_guard_52 : decode cX7_guard 52 = .ok (.iload 4, 2) := by decide +kernel
theorem dX7_guard_54 : decode cX7_guard 54 = .ok (.istore_n 2, 1) := by decide +kernel
theorem dX7_guard_55 : decode cX7_guard 55 = .ok (.iinc 4 1, 3) := by decide +kernel
theorem dX7_guard_58 : decode cX7_guard 58 = .ok (.goto (-39), 3) := by decide +kernel
theorem dX7_guard_61 : decode cX7_guard 61 = .ok (.iload_n 2, 1) := by decide +kernel
theorem dX7_guard_62 : decode cX7_guard 62 = .ok (.ireturn, 1) := by decide +kernel
theorem dX7_shelves_0 : decode cX7_shelves 0 = .ok (.iload_n 1, 1) := by decide +kernel
theorem dX7_shelves_1 : decode cX7_shelves 1 = .ok (.iconst (-1), 1) := by decide +kernel
theorem dX7_shelves_2 : decode cX7_shelves 2 = .ok (.if_icmp .lt 9, 3) := by decide +kernel
theorem dX7_shelves_5 : decode cX7_shelves 5 = .ok (.iload_n 1, 1) := by decide +kernel
theorem dX7_shelves_6 : decode cX7_shelves 6 = .ok (.bipush 6, 2) := by decide +kernel
theorem dX7_shelves_8 : decode cX7_shelves 8 = .ok (.if_icmp .lt 6, 3) := by decide +kernel
theorem dX7_shelves_11 : decode cX7_shelves 11 = .ok (.bipush (-2), 2) := by decide +kernel
theorem dX7_shelves_13 : decode cX7_shelves 13 = .ok (.ireturn, 1) := by decide +kernel
theorem dX7_shelves_14 : decode cX7_shelves 14 = .ok (.aload_n 0, 1) := by decide +kernel
theorem dX7_shelves_15 : decode cX7_shelves 15 = .ok (.getfield 12, 3) := by decide +kernel
theorem dX7_shelves_18 : decode cX7_shelves 18 = .ok (.getfield 177, 3) := by decide +kernel
theorem dX7_shelves_21 : decode cX7_shelves 21 = .ok (.bipush 6, 2) := by decide +kernel
theorem dX7_shelves_23 : decode cX7_shelves 23 = .ok (.invokestatic 237, 3) := by decide +kernel
theorem dX7_shelves_26 : decode cX7_shelves 26 = .ok (.istore_n 2, 1) := by decide +kernel
theorem dX7_shelves_27 : decode cX7_shelves 27 = .ok (.iconst 0, 1) := by decide +kernel
theorem dX7_shelves_28 : decode cX7_shelves 28 = .ok (.istore_n 3, 1) := by decide +kernel
theorem dX7_shelves_29 : decode cX7_shelves 29 = .ok (.iconst 0, 1) := by decide +kernel
theorem dX7_shelves_30 : decode cX7_shelves 30 = .ok (.istore 4, 2) := by decide +kernel
theorem dX7_shelves_32 : decode cX7_shelves 32 = .ok (.iload 4, 2) := by decide +kernel
theorem dX7_shelves_34 : decode cX7_shelves 34 = .ok (.iload_n 2, 1) := by decide +kernel
theorem dX7_shelves_35 : decode cX7_shelves 35 = .ok (.if_icmp .ge 44, 3) := by decide +kernel
theorem dX7_shelves_38 : decode cX7_shelves 38 = .ok (.aload_n 0, 1) := by decide +kernel
theorem dX7_shelves_39 : decode cX7_shelves 39 = .ok (.iload 4, 2) := by decide +kernel
theorem dX7_shelves_41 : decode cX7_shelves 41 = .ok (.iload_n 2, 1) := by decide +kernel
theorem dX7_shelves_42 : decode cX7_shelves 42 = .ok (.invokevirtual 240, 3) := by decide +kernel
theorem dX7_shelves_45 : decode cX7_shelves 45 = .ok (.istore 5, 2) := by decide +kernel
theorem dX7_shelves_47 : decode cX7_shelves 47 = .ok (.iload 5, 2) := by decide +kernel
theorem dX7_shelves_49 : decode cX7_shelves 49 = .ok (.iload_n 1, 1) := by decide +kernel
theorem dX7_shelves_50 : decode cX7_shelves 50 = .ok (.if_icmp .ne 6, 3) := by decide +kernel
theorem dX7_shelves_53 : decode cX7_shelves 53 = .ok (.iload 4, 2) := by decide +kernel
theorem dX7_shelves_55 : decode cX7_shelves 55 = .ok (.ireturn, 1) := by decide +kernel
theorem dX7_shelves_56 : decode cX7_shelves 56 = .ok (.iload_n 3, 1) := by decide +kernel
theorem dX7_shelves_57 : decode cX7_shelves 57 = .ok (.iload 5, 2) := by decide +kernel
theorem dX7_shelves_59 : decode cX7_shelves 59 = .ok (.iconst 1, 1) := by decide +kernel
theorem dX7_shelves_60 : decode cX7_shelves 60 = .ok (.iadd, 1) := by decide +kernel
theorem dX7_shelves_61 : decode cX7_shelves 61 = .ok (.aload_n 0, 1) := by decide +kernel
theorem dX7_shelves_62 : decode cX7_shelves 62 = .ok (.getfield 26, 3) := by decide +kernel
theorem dX7_shelves_65 : decode cX7_shelves 65 = .ok (.iload 4, 2) := by decide +kernel
theorem dX7_shelves_67 : decode cX7_shelves 67 = .ok (.invokevirtual 243, 3) := by decide +kernel
theorem dX7_shelves_70 : decode cX7_shelves 70 = .ok (.imul, 1) := by decide +kernel
theorem dX7_shelves_71 : decode cX7_shelves 71 = .ok (.iadd, 1) := by decide +kernel
theorem dX7_shelves_72 : decode cX7_shelves 72 = .ok (.istore_n 3, 1) := by decide +kernel
theorem dX7_shelves_73 : decode cX7_shelves 73 = .ok (.iinc 4 1, 3) := by decide +kernel
theorem dX7_shelves_76 : decode cX7_shelves 76 = .ok (.goto (-44), 3) := by decide +kernel
theorem dX7_shelves_79 : decode cX7_shelves 79 = .ok (.iload_n 1, 1) := by decide +kernel
theorem dX7_shelves_80 : decode cX7_shelves 80 = .ok (.iconst (-1), 1) := by decide +kernel
theorem dX7_shelves_81 : decode cX7_shelves 81 = .ok (.if_icmp .ne 7, 3) := by decide +kernel
theorem dX7_shelves_84 : decode cX7_shelves 84 = .ok (.iload_n 3, 1) := by decide +kernel
theorem dX7_shelves_85 : decode cX7_shelves 85 = .ok (.goto 4, 3) := by decide +kernel
theorem dX7_shelves_88 : decode cX7_shelves 88 = .ok (.iconst (-1), 1) := by decide +kernel
theorem dX7_shelves_89 : decode cX7_shelves 89 = .ok (.ireturn, 1) := by decide +kernel
theorem dX7_together_0 : decode cX7_together 0 = .ok (.iload_n 1, 1) := by decide +kernel
theorem dX7_together_1 : decode cX7_together 1 = .ok (.iconst (-1), 1) := by decide +kernel
theorem dX7_together_2 : decode cX7_together 2 = .ok (.if_icmp .lt 9, 3) := by decide +kernel
theorem dX7_together_5 : decode cX7_together 5 = .ok (.iload_n 1, 1) := by decide +kernel
theorem dX7_together_6 : decode cX7_together 6 = .ok (.bipush 8, 2) := by decide +kernel
theorem dX7_together_8 : decode cX7_together 8 = .ok (.if_icmp .lt 6, 3) := by decide +kernel
theorem dX7_together_11 : decode cX7_together 11 = .ok (.bipush (-2), 2) := by decide +kernel
theorem dX7_together_13 : decode cX7_together 13 = .ok (.ireturn, 1) := by decide +kernel
theorem dX7_together_14 : decode cX7_together 14 = .ok (.aload_n 0, 1) := by decide +kernel
theorem dX7_together_15 : decode cX7_together 15 = .ok (.invokevirtual 189, 3) := by decide +kernel
theorem dX7_together_18 : decode cX7_together 18 = .ok (.getfield 246, 3) := by decide +kernel
theorem dX7_together_21 : decode cX7_together 21 = .ok (.lstore_n 2, 1) := by decide +kernel
theorem dX7_together_22 : decode cX7_together 22 = .ok (.iload_n 1, 1) := by decide +kernel
theorem dX7_together_23 : decode cX7_together 23 = .ok (.iconst (-1), 1) := by decide +kernel
theorem dX7_together_24 : decode cX7_together 24 = .ok (.if_icmp .ne 10, 3) := by decide +kernel
theorem dX7_together_27 : decode cX7_together 27 = .ok (.lload_n 2, 1) := by decide +kernel
theorem dX7_together_28 : decode cX7_together 28 = .ok (.invokestatic 196, 3) := by decide +kernel
theorem dX7_together_31 : decode cX7_together 31 = .ok (.goto 8, 3) := by decide +kernel
theorem dX7_together_34 : decode cX7_together 34 = .ok (.lload_n 2, 1) := by decide +kernel
theorem dX7_together_35 : decode cX7_together 35 = .ok (.iload_n 1, 1) := by decide +kernel
theorem dX7_together_36 : decode cX7_together 36 = .ok (.invokestatic 203, 3) := by decide +kernel
theorem dX7_together_39 : decode cX7_together 39 = .ok (.ireturn, 1) := by decide +kernel
theorem dX7_seen_0 : decode cX7_seen 0 = .ok (.aload_n 0, 1) := by decide +kernel
theorem dX7_seen_1 : decode cX7_seen 1 = .ok (.getfield 43, 3) := by decide +kernel
theorem dX7_seen_4 : decode cX7_seen 4 = .ok (.iload_n 1, 1) := by decide +kernel
theorem dX7_seen_5 : decode cX7_seen 5 = .ok (.iload_n 2, 1) := by decide +kernel
theorem dX7_seen_6 : decode cX7_seen 6 = .ok (.iload_n 3, 1) := by decide +kernel
theorem dX7_seen_7 : decode cX7_seen 7 = .ok (.invokevirtual 249, 3) := by decide +kernel
theorem dX7_seen_10 : decode cX7_seen 10 = .ok (.ireturn, 1) := by decide +kernel
theorem dX7_forget_0 : decode cX7_forget 0 = .ok (.aload_n 0, 1) := by decide +kernel
theorem dX7_forget_1 : decode cX7_forget 1 = .ok (.getfield 43, 3) := by decide +kernel
theorem dX7_forget_4 : decode cX7_forget 4 = .ok (.getfield 252, 3) := by decide +kernel
theorem dX7_forget_7 : decode cX7_forget 7 = .ok (.istore_n 1, 1) := by decide +kernel
theorem dX7_forget_8 : decode cX7_forget 8 = .ok (.aload_n 0, 1) := by decide +kernel
theorem dX7_forget_9 : decode cX7_forget 9 = .ok (.getfield 43, 3) := by decide +kernel
theorem dX7_forget_12 : decode cX7_forget 12 = .ok (.iconst 0, 1) := by decide +kernel
theorem dX7_forget_13 : decode cX7_forget 13 = .ok (.putfield 252, 3) := by decide +kernel
theorem dX7_forget_16 : decode cX7_forget 16 = .ok (.iload_n 1, 1) := by decide +kernel
theorem dX7_forget_17 : decode cX7_forget 17 = .ok (.ireturn, 1) := by decide +kernel
theorem dX7_when_0 : decode cX7_when 0 = .ok (.aload_n 0, 1) := by decide +kernel
theorem dX7_when_1 : decode cX7_when 1 = .ok (.iload_n 1, 1) := by decide +kernel
theorem dX7_when_2 : decode cX7_when 2 = .ok (.invokevirtual 102, 3) := by decide +kernel
theorem dX7_when_5 : decode cX7_when 5 = .ok (.ifCond .eq 6, 3) := by decide +kernel
theorem dX7_when_8 : decode cX7_when 8 = .ok (.bipush (-2), 2) := by decide +kernel
theorem dX7_when_10 : decode cX7_when 10 = .ok (.ireturn, 1) := by decide +kernel
theorem dX7_when_11 : decode cX7_when 11 = .ok (.aload_n 0, 1) := by decide +kernel
theorem dX7_when_12 : decode cX7_when 12 = .ok (.getfield 56, 3) := by decide +kernel
theorem dX7_when_15 : decode cX7_when 15 = .ok (.aload_n 0, 1) := by decide +kernel
theorem dX7_when_16 : decode cX7_when 16 = .ok (.getfield 33, 3) := by decide +kernel
theorem dX7_when_19 : decode cX7_when 19 = .ok (.aload_n 0, 1) := by decide +kernel
theorem dX7_when_20 : decode cX7_when 20 = .ok (.getfield 37, 3) := by decide +kernel
theorem dX7_when_23 : decode cX7_when 23 = .ok (.invokevirtual 253, 3) := by decide +kernel
theorem dX7_when_26 : decode cX7_when 26 = .ok (.iconst 0, 1) := by decide +kernel
theorem dX7_when_27 : decode cX7_when 27 = .ok (.istore_n 2, 1) := by decide +kernel
theorem dX7_when_28 : decode cX7_when 28 = .ok (.iconst 0, 1) := by decide +kernel
theorem dX7_when_29 : decode cX7_when 29 = .ok (.istore_n 3, 1) := by decide +kernel
theorem dX7_when_30 : decode cX7_when 30 = .ok (.iload_n 3, 1) := by decide +kernel
theorem dX7_when_31 : decode cX7_when 31 = .ok (.bipush 20, 2) := by decide +kernel
theorem dX7_when_33 : decode cX7_when 33 = .ok (.if_icmp .ge 24, 3) := by decide +kernel
theorem dX7_when_36 : decode cX7_when 36 = .ok (.aload_n 0, 1) := by decide +kernel
theorem dX7_when_37 : decode cX7_when 37 = .ok (.iload_n 3, 1) := by decide +kernel
theorem dX7_when_38 : decode cX7_when 38 = .ok (.iload_n 1, 1) := by decide +kernel
theorem dX7_when_39 : decode cX7_when 39 = .ok (.invokevirtual 257, 3) := by decide +kernel
theorem dX7_when_42 : decode cX7_when 42 = .ok (.ifCond .eq 9, 3) := by decide +kernel
theorem dX7_when_45 : decode cX7_when 45 = .ok (.iload_n 2, 1) := by decide +kernel
theorem dX7_when_46 : decode cX7_when 46 = .ok (.iconst 1, 1) := by decide +kernel
theorem dX7_when_47 : decode cX7_when 47 = .ok (.iload_n 3, 1) := by decide +kernel
theorem dX7_when_48 : decode cX7_when 48 = .ok (.ishl, 1) := by decide +kernel
theorem dX7_when_49 : decode cX7_when 49 = .ok (.ior, 1) := by decide +kernel
theorem dX7_when_50 : decode cX7_when 50 = .ok (.istore_n 2, 1) := by decide +kernel
theorem dX7_when_51 : decode cX7_when 51 = .ok (.iinc 3 1, 3) := by decide +kernel
theorem dX7_when_54 : decode cX7_when 54 = .ok (.goto (-24), 3) := by decide +kernel
theorem dX7_when_57 : decode cX7_when 57 = .ok (.iload_n 2, 1) := by decide +kernel
theorem dX7_when_58 : decode cX7_when 58 = .ok (.ireturn, 1) := by decide +kernel
theorem dX7_weeks_0 : decode cX7_weeks 0 = .ok (.iload_n 2, 1) := by decide +kernel
theorem dX7_weeks_1 : decode cX7_weeks 1 = .ok (.iconst 1, 1) := by decide +kernel
theorem dX7_weeks_2 : decode cX7_weeks 2 = .ok (.if_icmp .lt 17, 3) := by decide +kernel
theorem dX7_weeks_5 : decode cX7_weeks 5 = .ok (.iload_n 2, 1) := by decide +kernel
theorem dX7_weeks_6 : decode cX7_weeks 6 = .ok (.bipush 40, 2) := by decide +kernel
theorem dX7_weeks_8 : decode cX7_weeks 8 = .ok (.if_icmp .gt 11, 3) := by decide +kernel
theorem dX7_weeks_11 : decode cX7_weeks 11 = .ok (.iload_n 3, 1) := by decide +kernel
theorem dX7_weeks_12 : decode cX7_weeks 12 = .ok (.iconst 2, 1) := by decide +kernel
theorem dX7_weeks_13 : decode cX7_weeks 13 = .ok (.invokestatic 73, 3) := by decide +kernel
theorem dX7_weeks_16 : decode cX7_weeks 16 = .ok (.ifCond .eq 6, 3) := by decide +kernel
theorem dX7_weeks_19 : decode cX7_weeks 19 = .ok (.bipush (-2), 2) := by decide +kernel
theorem dX7_weeks_21 : decode cX7_weeks 21 = .ok (.ireturn, 1) := by decide +kernel
theorem dX7_weeks_22 : decode cX7_weeks 22 = .ok (.aload_n 0, 1) := by decide +kernel
theorem dX7_weeks_23 : decode cX7_weeks 23 = .ok (.getfield 56, 3) := by decide +kernel
theorem dX7_weeks_26 : decode cX7_weeks 26 = .ok (.aload_n 0, 1) := by decide +kernel
theorem dX7_weeks_27 : decode cX7_weeks 27 = .ok (.getfield 33, 3) := by decide +kernel
theorem dX7_weeks_30 : decode cX7_weeks 30 = .ok (.aload_n 0, 1) := by decide +kernel
theorem dX7_weeks_31 : decode cX7_weeks 31 = .ok (.getfield 37, 3) := by decide +kernel
theorem dX7_weeks_34 : decode cX7_weeks 34 = .ok (.invokevirtual 253, 3) := by decide +kernel
theorem dX7_weeks_37 : decode cX7_weeks 37 = .ok (.aload_n 0, 1) := by decide +kernel
theorem dX7_weeks_38 : decode cX7_weeks 38 = .ok (.iload_n 1, 1) := by decide +kernel
theorem dX7_weeks_39 : decode cX7_weeks 39 = .ok (.iload_n 2, 1) := by decide +kernel
theorem dX7_weeks_40 : decode cX7_weeks 40 = .ok (.invokevirtual 260, 3) := by decide +kernel
theorem dX7_weeks_43 : decode cX7_weeks 43 = .ok (.aload_n 0, 1) := by decide +kernel
theorem dX7_weeks_44 : decode cX7_weeks 44 = .ok (.getfield 56, 3) := by decide +kernel
theorem dX7_weeks_47 : decode cX7_weeks 47 = .ok (.iload_n 2, 1) := by decide +kernel
theorem dX7_weeks_48 : decode cX7_weeks 48 = .ok (.iconst 1, 1) := by decide +kernel
theorem dX7_weeks_49 : decode cX7_weeks 49 = .ok (.isub, 1) := by decide +kernel
theorem dX7_weeks_50 : decode cX7_weeks 50 = .ok (.invokevirtual 264, 3) := by decide +kernel
theorem dX7_weeks_53 : decode cX7_weeks 53 = .ok (.iload_n 3, 1) := by decide +kernel
theorem dX7_weeks_54 : decode cX7_weeks 54 = .ok (.ifCond .ne 13, 3) := by decide +kernel
theorem dX7_weeks_57 : decode cX7_weeks 57 = .ok (.aload_n 0, 1) := by decide +kernel
theorem dX7_weeks_58 : decode cX7_weeks 58 = .ok (.getfield 56, 3) := by decide +kernel
theorem dX7_weeks_61 : decode cX7_weeks 61 = .ok (.getfield 267, 3) := by decide +kernel
theorem dX7_weeks_64 : decode cX7_weeks 64 = .ok (.goto 10, 3) := by decide +kernel
theorem dX7_weeks_67 : decode cX7_weeks 67 = .ok (.aload_n 0, 1) := by decide +kernel
theorem dX7_weeks_68 : decode cX7_weeks 68 = .ok (.getfield 56, 3) := by decide +kernel
theorem dX7_weeks_71 : decode cX7_weeks 71 = .ok (.getfield 174, 3) := by decide +kernel
theorem dX7_weeks_74 : decode cX7_weeks 74 = .ok (.invokestatic 210, 3) := by decide +kernel
theorem dX7_weeks_77 : decode cX7_weeks 77 = .ok (.ireturn, 1) := by decide +kernel
theorem dX7_sheet_0 : decode cX7_sheet 0 = .ok (.iload_n 1, 1) := by decide +kernel
theorem dX7_sheet_1 : decode cX7_sheet 1 = .ok (.iconst 4, 1) := by decide +kernel
theorem dX7_sheet_2 : decode cX7_sheet 2 = .ok (.invokestatic 73, 3) := by decide +kernel
theorem dX7_sheet_5 : decode cX7_sheet 5 = .ok (.ifCond .ne 17, 3) := by decide +kernel
theorem dX7_sheet_8 : decode cX7_sheet 8 = .ok (.iload_n 2, 1) := by decide +kernel
theorem dX7_sheet_9 : decode cX7_sheet 9 = .ok (.iconst 3, 1) := by decide +kernel
theorem dX7_sheet_10 : decode cX7_sheet 10 = .ok (.invokestatic 73, 3) := by decide +kernel
theorem dX7_sheet_13 : decode cX7_sheet 13 = .ok (.ifCond .ne 9, 3) := by decide +kernel
theorem dX7_sheet_16 : decode cX7_sheet 16 = .ok (.iload_n 3, 1) := by decide +kernel
theorem dX7_sheet_17 : decode cX7_sheet 17 = .ok (.bipush 48, 2) := by decide +kernel
theorem dX7_sheet_19 : decode cX7_sheet 19 = .ok (.if_icmp .le 6, 3) := by decide +kernel
theorem dX7_sheet_22 : decode cX7_sheet 22 = .ok (.bipush (-2), 2) := by decide +kernel
theorem dX7_sheet_24 : decode cX7_sheet 24 = .ok (.ireturn, 1) := by decide +kernel
theorem dX7_sheet_25 : decode cX7_sheet 25 = .ok (.iload_n 3, 1) := by decide +kernel
theorem dX7_sheet_26 : decode cX7_sheet 26 = .ok (.ifCond .ge 9, 3) := by decide +kernel
theorem dX7_sheet_29 : decode cX7_sheet 29 = .ok (.aload_n 0, 1) := by decide +kernel
theorem dX7_sheet_30 : decode cX7_sheet 30 = .ok (.iconst 5, 1) := by decide +kernel
theorem dX7_sheet_31 : decode cX7_sheet 31 = .ok (.invokevirtual 140, 3) := by decide +kernel
theorem dX7_sheet_34 : decode cX7_sheet 34 = .ok (.ireturn, 1) := by decide +kernel
theorem dX7_sheet_35 : decode cX7_sheet 35 = .ok (.aload_n 0, 1) := by decide +kernel
theorem dX7_sheet_36 : decode cX7_sheet 36 = .ok (.getfield 68, 3) := by decide +kernel
theorem dX7_sheet_39 : decode cX7_sheet 39 = .ok (.iload_n 1, 1) := by decide +kernel
theorem dX7_sheet_40 : decode cX7_sheet 40 = .ok (.aaload, 1) := by decide +kernel
theorem dX7_sheet_41 : decode cX7_sheet 41 = .ok (.iload_n 2, 1) := by decide +kernel
theorem dX7_sheet_42 : decode cX7_sheet 42 = .ok (.iload_n 3, 1) := by decide +kernel
theorem dX7_sheet_43 : decode cX7_sheet 43 = .ok (.invokevirtual 270, 3) := by decide +kernel
theorem dX7_sheet_46 : decode cX7_sheet 46 = .ok (.iload_n 3, 1) := by decide +kernel
theorem dX7_sheet_47 : decode cX7_sheet 47 = .ok (.ireturn, 1) := by decide +kernel
theorem dX7_lose_0 : decode cX7_lose 0 = .ok (.iload_n 1, 1) := by decide +kernel
theorem dX7_lose_1 : decode cX7_lose 1 = .ok (.iconst 4, 1) := by decide +kernel
theorem dX7_lose_2 : decode cX7_lose 2 = .ok (.invokestatic 73, 3) := by decide +kernel
theorem dX7_lose_5 : decode cX7_lose 5 = .ok (.ifCond .eq 6, 3) := by decide +kernel
theorem dX7_lose_8 : decode cX7_lose 8 = .ok (.bipush (-2), 2) := by decide +kernel
theorem dX7_lose_10 : decode cX7_lose 10 = .ok (.ireturn, 1) := by decide +kernel
theorem dX7_lose_11 : decode cX7_lose 11 = .ok (.aload_n 0, 1) := by decide +kernel
theorem dX7_lose_12 : decode cX7_lose 12 = .ok (.getfield 68, 3) := by decide +kernel
theorem dX7_lose_15 : decode cX7_lose 15 = .ok (.iload_n 1, 1) := by decide +kernel
theorem dX7_lose_16 : decode cX7_lose 16 = .ok (.aaload, 1) := by decide +kernel
theorem dX7_lose_17 : decode cX7_lose 17 = .ok (.astore_n 2, 1) := by decide +kernel
theorem dX7_lose_18 : decode cX7_lose 18 = .ok (.aload_n 2, 1) := by decide +kernel
theorem dX7_lose_19 : decode cX7_lose 19 = .ok (.invokevirtual 136, 3) := by decide +kernel
theorem dX7_lose_22 : decode cX7_lose 22 = .ok (.ifCond .eq 9, 3) := by decide +kernel
theorem dX7_lose_25 : decode cX7_lose 25 = .ok (.aload_n 0, 1) := by decide +kernel
theorem dX7_lose_26 : decode cX7_lose 26 = .ok (.iconst 1, 1) := by decide +kernel
theorem dX7_lose_27 : decode cX7_lose 27 = .ok (.invokevirtual 140, 3) := by decide +kernel
theorem dX7_lose_30 : decode cX7_lose 30 = .ok (.ireturn, 1) := by decide +kernel
theorem dX7_lose_31 : decode cX7_lose 31 = .ok (.aload_n 2, 1) := by decide +kernel
theorem dX7_lose_32 : decode cX7_lose 32 = .ok (.getfield 144, 3) := by decide +kernel
theorem dX7_lose_35 : decode cX7_lose 35 = .ok (.istore_n 3, 1) := by decide +kernel
theorem dX7_lose_36 : decode cX7_lose 36 = .ok (.aload_n 2, 1) := by decide +kernel
theorem dX7_lose_37 : decode cX7_lose 37 = .ok (.iconst (-1), 1) := by decide +kernel
theorem dX7_lose_38 : decode cX7_lose 38 = .ok (.putfield 144, 3) := by decide +kernel
theorem dX7_lose_41 : decode cX7_lose 41 = .ok (.iload_n 3, 1) := by decide +kernel
theorem dX7_lose_42 : decode cX7_lose 42 = .ok (.ireturn, 1) := by decide +kernel
theorem dX7_put_0 : decode cX7_put 0 = .ok (.iload_n 1, 1) := by decide +kernel
theorem dX7_put_1 : decode cX7_put 1 = .ok (.iconst 4, 1) := by decide +kernel
theorem dX7_put_2 : decode cX7_put 2 = .ok (.invokestatic 73, 3) := by decide +kernel
theorem dX7_put_5 : decode cX7_put 5 = .ok (.ifCond .ne 11, 3) := by decide +kernel
theorem dX7_put_8 : decode cX7_put 8 = .ok (.iload_n 2, 1) := by decide +kernel
theorem dX7_put_9 : decode cX7_put 9 = .ok (.iconst 3, 1) := by decide +kernel
theorem dX7_put_10 : decode cX7_put 10 = .ok (.invokestatic 73, 3) := by decide +kernel
theorem dX7_put_13 : decode cX7_put 13 = .ok (.ifCond .eq 6, 3) := by decide +kernel
theorem dX7_put_16 : decode cX7_put 16 = .ok (.bipush (-2), 2) := by decide +kernel
theorem dX7_put_18 : decode cX7_put 18 = .ok (.ireturn, 1) := by decide +kernel
theorem dX7_put_19 : decode cX7_put 19 = .ok (.aload_n 0, 1) := by decide +kernel
theorem dX7_put_20 : decode cX7_put 20 = .ok (.getfield 68, 3) := by decide +kernel
theorem dX7_put_23 : decode cX7_put 23 = .ok (.iload_n 1, 1) := by decide +kernel
theorem dX7_put_24 : decode cX7_put 24 = .ok (.aaload, 1) := by decide +kernel
theorem dX7_put_25 : decode cX7_put 25 = .ok (.iload_n 2, 1) := by decide +kernel
theorem dX7_put_26 : decode cX7_put 26 = .ok (.iload_n 3, 1) := by decide +kernel
theorem dX7_put_27 : decode cX7_put 27 = .ok (.invokevirtual 273, 3) := by decide +kernel
theorem dX7_put_30 : decode cX7_put 30 = .ok (.istore 5, 2) := by decide +kernel
theorem dX7_put_32 : decode cX7_put 32 = .ok (.iload 5, 2) := by decide +kernel
theorem dX7_put_34 : decode cX7_put 34 = .ok (.ifCond .eq 10, 3) := by decide +kernel
theorem dX7_put_37 : decode cX7_put 37 = .ok (.aload_n 0, 1) := by decide +kernel
theorem dX7_put_38 : decode cX7_put 38 = .ok (.iload 5, 2) := by decide +kernel
theorem dX7_put_40 : decode cX7_put 40 = .ok (.invokevirtual 140, 3) := by decide +kernel
theorem dX7_put_43 : decode cX7_put 43 = .ok (.ireturn, 1) := by decide +kernel
theorem dX7_put_44 : decode cX7_put 44 = .ok (.aload_n 0, 1) := by decide +kernel
theorem dX7_put_45 : decode cX7_put 45 = .ok (.getfield 68, 3) := by decide +kernel
theorem dX7_put_48 : decode cX7_put 48 = .ok (.iload_n 1, 1) := by decide +kernel
theorem dX7_put_49 : decode cX7_put 49 = .ok (.aaload, 1) := by decide +kernel
theorem dX7_put_50 : decode cX7_put 50 = .ok (.iload_n 3, 1) := by decide +kernel
theorem dX7_put_51 : decode cX7_put 51 = .ok (.iload 4, 2) := by decide +kernel
theorem dX7_put_53 : decode cX7_put 53 = .ok (.invokevirtual 276, 3) := by decide +kernel
theorem dX7_put_56 : decode cX7_put 56 = .ok (.iconst 1, 1) := by decide +kernel
theorem dX7_put_57 : decode cX7_put 57 = .ok (.ireturn, 1) := by decide +kernel
theorem dX7_get_0 : decode cX7_get 0 = .ok (.iload_n 1, 1) := by decide +kernel
theorem dX7_get_1 : decode cX7_get 1 = .ok (.iconst 4, 1) := by decide +kernel
theorem dX7_get_2 : decode cX7_get 2 = .ok (.invokestatic 73, 3) := by decide +kernel
theorem dX7_get_5 : decode cX7_get 5 = .ok (.ifCond .ne 11, 3) := by decide +kernel
theorem dX7_get_8 : decode cX7_get 8 = .ok (.iload_n 2, 1) := by decide +kernel
theorem dX7_get_9 : decode cX7_get 9 = .ok (.iconst 3, 1) := by decide +kernel
theorem dX7_get_10 : decode cX7_get 10 = .ok (.invokestatic 73, 3) := by decide +kernel
theorem dX7_get_13 : decode cX7_get 13 = .ok (.ifCond .eq 7, 3) := by decide +kernel
theorem dX7_get_16 : decode cX7_get 16 = .ok (.ldc_w 279, 3) := by decide +kernel
theorem dX7_get_19 : decode cX7_get 19 = .ok (.ireturn, 1) := by decide +kernel
theorem dX7_get_20 : decode cX7_get 20 = .ok (.aload_n 0, 1) := by decide +kernel
theorem dX7_get_21 : decode cX7_get 21 = .ok (.getfield 68, 3) := by decide +kernel
theorem dX7_get_24 : decode cX7_get 24 = .ok (.iload_n 1, 1) := by decide +kernel
theorem dX7_get_25 : decode cX7_get 25 = .ok (.aaload, 1) := by decide +kernel
theorem dX7_get_26 : decode cX7_get 26 = .ok (.iload_n 2, 1) := by decide +kernel
theorem dX7_get_27 : decode cX7_get 27 = .ok (.iload_n 3, 1) := by decide +kernel
theorem dX7_get_28 : decode cX7_get 28 = .ok (.invokevirtual 273, 3) := by decide +kernel
theorem dX7_get_31 : decode cX7_get 31 = .ok (.istore 4, 2) := by decide +kernel
theorem dX7_get_33 : decode cX7_get 33 = .ok (.iload 4, 2) := by decide +kernel
theorem dX7_get_35 : decode cX7_get 35 = .ok (.ifCond .eq 13, 3) := by decide +kernel
theorem dX7_get_38 : decode cX7_get 38 = .ok (.aload_n 0, 1) := by decide +kernel
theorem dX7_get_39 : decode cX7_get 39 = .ok (.iload 4, 2) := by decide +kernel
theorem dX7_get_41 : decode cX7_get 41 = .ok (.putfield 280, 3) := by decide +kernel
theorem dX7_get_44 : decode cX7_get 44 = .ok (.ldc_w 279, 3) := by decide +kernel
theorem dX7_get_47 : decode cX7_get 47 = .ok (.ireturn, 1) := by decide +kernel
theorem dX7_get_48 : decode cX7_get 48 = .ok (.aload_n 0, 1) := by decide +kernel
theorem dX7_get_49 : decode cX7_get 49 = .ok (.getfield 68, 3) := by decide +kernel
theorem dX7_get_52 : decode cX7_get 52 = .ok (.iload_n 1, 1) := by decide +kernel
theorem dX7_get_53 : decode cX7_get 53 = .ok (.aaload, 1) := by decide +kernel
theorem dX7_get_54 : decode cX7_get 54 = .ok (.getfield 145, 3) := by decide +kernel
theorem dX7_get_57 : decode cX7_get 57 = .ok (.iload_n 3, 1) := by decide +kernel
theorem dX7_get_58 : decode cX7_get 58 = .ok (.iaload, 1) := by decide +kernel
theorem dX7_get_59 : decode cX7_get 59 = .ok (.ireturn, 1) := by decide +kernel
theorem dX7_copy_0 : decode cX7_copy 0 = .ok (.iload_n 1, 1) := by decide +kernel
theorem dX7_copy_1 : decode cX7_copy 1 = .ok (.iconst 4, 1) := by decide +kernel
theorem dX7_copy_2 : decode cX7_copy 2 = .ok (.invokestatic 73, 3) := by decide +kernel
theorem dX7_copy_5 : decode cX7_copy 5 = .ok (.ifCond .ne 11, 3) := by decide +kernel
theorem dX7_copy_8 : decode cX7_copy 8 = .ok (.iload_n 3, 1) := by decide +kernel
theorem dX7_copy_9 : decode cX7_copy 9 = .ok (.iconst 4, 1) := by decide +kernel
theorem dX7_copy_10 : decode cX7_copy 10 = .ok (.invokestatic 73, 3) := by decide +kernel
theorem dX7_copy_13 : decode cX7_copy 13 = .ok (.ifCond .eq 6, 3) := by decide +kernel
theorem dX7_copy_16 : decode cX7_copy 16 = .ok (.bipush (-2), 2) := by decide +kernel
theorem dX7_copy_18 : decode cX7_copy 18 = .ok (.ireturn, 1) := by decide +kernel
theorem dX7_copy_19 : decode cX7_copy 19 = .ok (.aload_n 0, 1) := by decide +kernel
theorem dX7_copy_20 : decode cX7_copy 20 = .ok (.getfield 68, 3) := by decide +kernel
theorem dX7_copy_23 : decode cX7_copy 23 = .ok (.iload_n 1, 1) := by decide +kernel
theorem dX7_copy_24 : decode cX7_copy 24 = .ok (.aaload, 1) := by decide +kernel
theorem dX7_copy_25 : decode cX7_copy 25 = .ok (.astore 6, 2) := by decide +kernel
theorem dX7_copy_27 : decode cX7_copy 27 = .ok (.aload_n 0, 1) := by decide +kernel
theorem dX7_copy_28 : decode cX7_copy 28 = .ok (.getfield 68, 3) := by decide +kernel
theorem dX7_copy_31 : decode cX7_copy 31 = .ok (.iload_n 3, 1) := by decide +kernel
theorem dX7_copy_32 : decode cX7_copy 32 = .ok (.aaload, 1) := by decide +kernel
theorem dX7_copy_33 : decode cX7_copy 33 = .ok (.astore 7, 2) := by decide +kernel
theorem dX7_copy_35 : decode cX7_copy 35 = .ok (.aload 6, 2) := by decide +kernel
theorem dX7_copy_37 : decode cX7_copy 37 = .ok (.invokevirtual 136, 3) := by decide +kernel
theorem dX7_copy_40 : decode cX7_copy 40 = .ok (.ifCond .ne 11, 3) := by decide +kernel
theorem dX7_copy_43 : decode cX7_copy 43 = .ok (.aload 7, 2) := by decide +kernel
theorem dX7_copy_45 : decode cX7_copy 45 = .ok (.invokevirtual 136, 3) := by decide +kernel
theorem dX7_copy_48 : decode cX7_copy 48 = .ok (.ifCond .eq 9, 3) := by decide +kernel
theorem dX7_copy_51 : decode cX7_copy 51 = .ok (.aload_n 0, 1) := by decide +kernel
theorem dX7_copy_52 : decode cX7_copy 52 = .ok (.iconst 1, 1) := by decide +kernel
theorem dX7_copy_53 : decode cX7_copy 53 = .ok (.invokevirtual 140, 3) := by decide +kernel
theorem dX7_copy_56 : decode cX7_copy 56 = .ok (.ireturn, 1) := by decide +kernel
theorem dX7_copy_57 : decode cX7_copy 57 = .ok (.aload 6, 2) := by decide +kernel
theorem dX7_copy_59 : decode cX7_copy 59 = .ok (.getfield 283, 3) := by decide +kernel
theorem dX7_copy_62 : decode cX7_copy 62 = .ok (.aload 7, 2) := by decide +kernel
theorem dX7_copy_64 : decode cX7_copy 64 = .ok (.getfield 283, 3) := by decide +kernel
theorem dX7_copy_67 : decode cX7_copy 67 = .ok (.if_icmp .eq 9, 3) := by decide +kernel
theorem dX7_copy_70 : decode cX7_copy 70 = .ok (.aload_n 0, 1) := by decide +kernel
theorem dX7_copy_71 : decode cX7_copy 71 = .ok (.iconst 4, 1) := by decide +kernel
theorem dX7_copy_72 : decode cX7_copy 72 = .ok (.invokevirtual 140, 3) := by decide +kernel
theorem dX7_copy_75 : decode cX7_copy 75 = .ok (.ireturn, 1) := by decide +kernel
theorem dX7_copy_76 : decode cX7_copy 76 = .ok (.aload 6, 2) := by decide +kernel
theorem dX7_copy_78 : decode cX7_copy 78 = .ok (.iload_n 2, 1) := by decide +kernel
theorem dX7_copy_79 : decode cX7_copy 79 = .ok (.iload 5, 2) := by decide +kernel
theorem dX7_copy_81 : decode cX7_copy 81 = .ok (.invokevirtual 286, 3) := by decide +kernel
theorem dX7_copy_84 : decode cX7_copy 84 = .ok (.ifCond .eq 15, 3) := by decide +kernel
theorem dX7_copy_87 : decode cX7_copy 87 = .ok (.aload 7, 2) := by decide +kernel
theorem dX7_copy_89 : decode cX7_copy 89 = .ok (.iload 4, 2) := by decide +kernel
theorem dX7_copy_91 : decode cX7_copy 91 = .ok (.iload 5, 2) := by decide +kernel
theorem dX7_copy_93 : decode cX7_copy 93 = .ok (.invokevirtual 286, 3) := by decide +kernel
theorem dX7_copy_96 : decode cX7_copy 96 = .ok (.ifCond .ne 9, 3) := by decide +kernel
theorem dX7_copy_99 : decode cX7_copy 99 = .ok (.aload_n 0, 1) := by decide +kernel
theorem dX7_copy_100 : decode cX7_copy 100 = .ok (.iconst 2, 1) := by decide +kernel
theorem dX7_copy_101 : decode cX7_copy 101 = .ok (.invokevirtual 140, 3) := by decide +kernel
theorem dX7_copy_104 : decode cX7_copy 104 = .ok (.ireturn, 1) := by decide +kernel
theorem dX7_copy_105 : decode cX7_copy 105 = .ok (.aload 6, 2) := by decide +kernel
theorem dX7_copy_107 : decode cX7_copy 107 = .ok (.getfield 145, 3) := by decide +kernel
theorem dX7_copy_110 : decode cX7_copy 110 = .ok (.iload_n 2, 1) := by decide +kernel
theorem dX7_copy_111 : decode cX7_copy 111 = .ok (.aload 7, 2) := by decide +kernel
theorem dX7_copy_113 : decode cX7_copy 113 = .ok (.getfield 145, 3) := by decide +kernel
theorem dX7_copy_116 : decode cX7_copy 116 = .ok (.iload 4, 2) := by decide +kernel
theorem dX7_copy_118 : decode cX7_copy 118 = .ok (.iload 5, 2) := by decide +kernel
theorem dX7_copy_120 : decode cX7_copy 120 = .ok (.invokestatic 289, 3) := by decide +kernel
theorem dX7_copy_123 : decode cX7_copy 123 = .ok (.iconst 1, 1) := by decide +kernel
theorem dX7_copy_124 : decode cX7_copy 124 = .ok (.ireturn, 1) := by decide +kernel
theorem dX7_write_0 : decode cX7_write 0 = .ok (.iload_n 1, 1) := by decide +kernel
theorem dX7_write_1 : decode cX7_write 1 = .ok (.iconst 4, 1) := by decide +kernel
theorem dX7_write_2 : decode cX7_write 2 = .ok (.invokestatic 73, 3) := by decide +kernel
theorem dX7_write_5 : decode cX7_write 5 = .ok (.ifCond .eq 6, 3) := by decide +kernel
theorem dX7_write_8 : decode cX7_write 8 = .ok (.bipush (-2), 2) := by decide +kernel
theorem dX7_write_10 : decode cX7_write 10 = .ok (.ireturn, 1) := by decide +kernel
theorem dX7_write_11 : decode cX7_write 11 = .ok (.aload_n 0, 1) := by decide +kernel
theorem dX7_write_12 : decode cX7_write 12 = .ok (.getfield 68, 3) := by decide +kernel
theorem dX7_write_15 : decode cX7_write 15 = .ok (.iload_n 1, 1) := by decide +kernel
theorem dX7_write_16 : decode cX7_write 16 = .ok (.aaload, 1) := by decide +kernel
theorem dX7_write_17 : decode cX7_write 17 = .ok (.astore_n 2, 1) := by decide +kernel
theorem dX7_write_18 : decode cX7_write 18 = .ok (.aload_n 2, 1) := by decide +kernel
theorem dX7_write_19 : decode cX7_write 19 = .ok (.invokevirtual 136, 3) := by decide +kernel
theorem dX7_write_22 : decode cX7_write 22 = .ok (.ifCond .eq 9, 3) := by decide +kernel
theorem dX7_write_25 : decode cX7_write 25 = .ok (.aload_n 0, 1) := by decide +kernel
theorem dX7_write_26 : decode cX7_write 26 = .ok (.iconst 1, 1) := by decide +kernel
theorem dX7_write_27 : decode cX7_write 27 = .ok (.invokevirtual 140, 3) := by decide +kernel
theorem dX7_write_30 : decode cX7_write 30 = .ok (.ireturn, 1) := by decide +kernel
theorem dX7_write_31 : decode cX7_write 31 = .ok (.aload_n 0, 1) := by decide +kernel
theorem dX7_write_32 : decode cX7_write 32 = .ok (.invokevirtual 151, 3) := by decide +kernel
theorem dX7_write_35 : decode cX7_write 35 = .ok (.astore_n 3, 1) := by decide +kernel
theorem dX7_write_36 : decode cX7_write 36 = .ok (.aload_n 2, 1) := by decide +kernel
theorem dX7_write_37 : decode cX7_write 37 = .ok (.getfield 144, 3) := by decide +kernel
theorem dX7_write_40 : decode cX7_write 40 = .ok (.bipush 40, 2) := by decide +kernel
theorem dX7_write_42 : decode cX7_write 42 = .ok (.invokestatic 237, 3) := by decide +kernel
theorem dX7_write_45 : decode cX7_write 45 = .ok (.istore 4, 2) := by decide +kernel
theorem dX7_write_47 : decode cX7_write 47 = .ok (.iconst 0, 1) := by decide +kernel
theorem dX7_write_48 : decode cX7_write 48 = .ok (.istore 5, 2) := by decide +kernel
theorem dX7_write_50 : decode cX7_write 50 = .ok (.iload 5, 2) := by decide +kernel
theorem dX7_write_52 : decode cX7_write 52 = .ok (.iload 4, 2) := by decide +kernel
theorem dX7_write_54 : decode cX7_write 54 = .ok (.if_icmp .ge 22, 3) := by decide +kernel
theorem dX7_write_57 : decode cX7_write 57 = .ok (.aload_n 2, 1) := by decide +kernel
theorem dX7_write_58 : decode cX7_write 58 = .ok (.iload 5, 2) := by decide +kernel
theorem dX7_write_60 : decode cX7_write 60 = .ok (.aload_n 3, 1) := by decide +kernel
theorem dX7_write_61 : decode cX7_write 61 = .ok (.getfield 155, 3) := by decide +kernel
theorem dX7_write_64 : decode cX7_write 64 = .ok (.iload 5, 2) := by decide +kernel
theorem dX7_write_66 : decode cX7_write 66 = .ok (.iaload, 1) := by decide +kernel
theorem dX7_write_67 : decode cX7_write 67 = .ok (.invokevirtual 276, 3) := by decide +kernel
theorem dX7_write_70 : decode cX7_write 70 = .ok (.iinc 5 1, 3) := by decide +kernel
theorem dX7_write_73 : decode cX7_write 73 = .ok (.goto (-23), 3) := by decide +kernel
theorem dX7_write_76 : decode cX7_write 76 = .ok (.iload 4, 2) := by decide +kernel
theorem dX7_write_78 : decode cX7_write 78 = .ok (.ireturn, 1) := by decide +kernel
theorem dX7_count_0 : decode cX7_count 0 = .ok (.iload_n 1, 1) := by decide +kernel
theorem dX7_count_1 : decode cX7_count 1 = .ok (.tableswitch 120 0 8 #[51, 59, 67, 75, 83, 91, 99, 107, 115], 51) := by decide +kernel
theorem dX7_count_52 : decode cX7_count 52 = .ok (.aload_n 0, 1) := by decide +kernel
theorem dX7_count_53 : decode cX7_count 53 = .ok (.getfield 12, 3) := by decide +kernel
theorem dX7_count_56 : decode cX7_count 56 = .ok (.getfield 177, 3) := by decide +kernel
theorem dX7_count_59 : decode cX7_count 59 = .ok (.ireturn, 1) := by decide +kernel
theorem dX7_count_60 : decode cX7_count 60 = .ok (.aload_n 0, 1) := by decide +kernel
theorem dX7_count_61 : decode cX7_count 61 = .ok (.getfield 18, 3) := by decide +kernel
theorem dX7_count_64 : decode cX7_count 64 = .ok (.getfield 177, 3) := by decide +kernel
theorem dX7_count_67 : decode cX7_count 67 = .ok (.ireturn, 1) := by decide +kernel
theorem dX7_count_68 : decode cX7_count 68 = .ok (.aload_n 0, 1) := by decide +kernel
theorem dX7_count_69 : decode cX7_count 69 = .ok (.getfield 12, 3) := by decide +kernel
theorem dX7_count_72 : decode cX7_count 72 = .ok (.getfield 81, 3) := by decide +kernel
theorem dX7_count_75 : decode cX7_count 75 = .ok (.ireturn, 1) := by decide +kernel
theorem dX7_count_76 : decode cX7_count 76 = .ok (.aload_n 0, 1) := by decide +kernel
theorem dX7_count_77 : decode cX7_count 77 = .ok (.getfield 18, 3) := by decide +kernel
theorem dX7_count_80 : decode cX7_count 80 = .ok (.getfield 81, 3) := by decide +kernel
theorem dX7_count_83 : decode cX7_count 83 = .ok (.ireturn, 1) := by decide +kernel
theorem dX7_count_84 : decode cX7_count 84 = .ok (.aload_n 0, 1) := by decide +kernel
theorem dX7_count_85 : decode cX7_count 85 = .ok (.getfield 33, 3) := by decide +kernel
theorem dX7_count_88 : decode cX7_count 88 = .ok (.getfield 135, 3) := by decide +kernel
theorem dX7_count_91 : decode cX7_count 91 = .ok (.ireturn, 1) := by decide +kernel
theorem dX7_count_92 : decode cX7_count 92 = .ok (.aload_n 0, 1) := by decide +kernel
theorem dX7_count_93 : decode cX7_count 93 = .ok (.getfield 37, 3) := by decide +kernel
theorem dX7_count_96 : decode cX7_count 96 = .ok (.getfield 135, 3) := by decide +kernel
theorem dX7_count_99 : decode cX7_count 99 = .ok (.ireturn, 1) := by decide +kernel
theorem dX7_count_100 : decode cX7_count 100 = .ok (.aload_n 0, 1) := by decide +kernel
theorem dX7_count_101 : decode cX7_count 101 = .ok (.getfield 43, 3) := by decide +kernel
theorem dX7_count_104 : decode cX7_count 104 = .ok (.getfield 252, 3) := by decide +kernel
theorem dX7_count_107 : decode cX7_count 107 = .ok (.ireturn, 1) := by decide +kernel
theorem dX7_count_108 : decode cX7_count 108 = .ok (.aload_n 0, 1) := by decide +kernel
theorem dX7_count_109 : decode cX7_count 109 = .ok (.getfield 26, 3) := by decide +kernel
theorem dX7_count_112 : decode cX7_count 112 = .ok (.invokevirtual 295, 3) := by decide +kernel
theorem dX7_count_115 : decode cX7_count 115 = .ok (.ireturn, 1) := by decide +kernel
theorem dX7_count_116 : decode cX7_count 116 = .ok (.aload_n 0, 1) := by decide +kernel
theorem dX7_count_117 : decode cX7_count 117 = .ok (.getfield 280, 3) := by decide +kernel
theorem dX7_count_120 : decode cX7_count 120 = .ok (.ireturn, 1) := by decide +kernel
theorem dX7_count_121 : decode cX7_count 121 = .ok (.bipush (-2), 2) := by decide +kernel
theorem dX7_count_123 : decode cX7_count 123 = .ok (.ireturn, 1) := by decide +kernel
theorem dX7_digest_0 : decode cX7_digest 0 = .ok (.ldc2_w 298, 3) := by decide +kernel
theorem dX7_digest_3 : decode cX7_digest 3 = .ok (.lstore_n 1, 1) := by decide +kernel
theorem dX7_digest_4 : decode cX7_digest 4 = .ok (.iconst 0, 1) := by decide +kernel
theorem dX7_digest_5 : decode cX7_digest 5 = .ok (.istore_n 3, 1) := by decide +kernel
theorem dX7_digest_6 : decode cX7_digest 6 = .ok (.iload_n 3, 1) := by decide +kernel
theorem dX7_digest_7 : decode cX7_digest 7 = .ok (.bipush 7, 2) := by decide +kernel
theorem dX7_digest_9 : decode cX7_digest 9 = .ok (.if_icmp .gt 20, 3) := by decide +kernel
theorem dX7_digest_12 : decode cX7_digest 12 = .ok (.lload_n 1, 1) := by decide +kernel
theorem dX7_digest_13 : decode cX7_digest 13 = .ok (.aload_n 0, 1) := by decide +kernel
theorem dX7_digest_14 : decode cX7_digest 14 = .ok (.iload_n 3, 1) := by decide +kernel
theorem dX7_digest_15 : decode cX7_digest 15 = .ok (.invokevirtual 300, 3) := by decide +kernel
theorem dX7_digest_18 : decode cX7_digest 18 = .ok (.i2l, 1) := by decide +kernel
theorem dX7_digest_19 : decode cX7_digest 19 = .ok (.invokestatic 303, 3) := by decide +kernel
theorem dX7_digest_22 : decode cX7_digest 22 = .ok (.lstore_n 1, 1) := by decide +kernel
theorem dX7_digest_23 : decode cX7_digest 23 = .ok (.iinc 3 1, 3) := by decide +kernel
theorem dX7_digest_26 : decode cX7_digest 26 = .ok (.goto (-20), 3) := by decide +kernel
theorem dX7_digest_29 : decode cX7_digest 29 = .ok (.lload_n 1, 1) := by decide +kernel
theorem dX7_digest_30 : decode cX7_digest 30 = .ok (.aload_n 0, 1) := by decide +kernel
theorem dX7_digest_31 : decode cX7_digest 31 = .ok (.iconst 0, 1) := by decide +kernel
theorem dX7_digest_32 : decode cX7_digest 32 = .ok (.invokevirtual 307, 3) := by decide +kernel
theorem dX7_digest_35 : decode cX7_digest 35 = .ok (.i2l, 1) := by decide +kernel
theorem dX7_digest_36 : decode cX7_digest 36 = .ok (.invokestatic 303, 3) := by decide +kernel
theorem dX7_digest_39 : decode cX7_digest 39 = .ok (.lstore_n 1, 1) := by decide +kernel
theorem dX7_digest_40 : decode cX7_digest 40 = .ok (.lload_n 1, 1) := by decide +kernel
theorem dX7_digest_41 : decode cX7_digest 41 = .ok (.aload_n 0, 1) := by decide +kernel
theorem dX7_digest_42 : decode cX7_digest 42 = .ok (.iconst 1, 1) := by decide +kernel
theorem dX7_digest_43 : decode cX7_digest 43 = .ok (.invokevirtual 307, 3) := by decide +kernel
theorem dX7_digest_46 : decode cX7_digest 46 = .ok (.i2l, 1) := by decide +kernel
theorem dX7_digest_47 : decode cX7_digest 47 = .ok (.invokestatic 303, 3) := by decide +kernel
theorem dX7_digest_50 : decode cX7_digest 50 = .ok (.lstore_n 1, 1) := by decide +kernel
theorem dX7_digest_51 : decode cX7_digest 51 = .ok (.iconst 0, 1) := by decide +kernel
theorem dX7_digest_52 : decode cX7_digest 52 = .ok (.istore_n 3, 1) := by decide +kernel
theorem dX7_digest_53 : decode cX7_digest 53 = .ok (.iload_n 3, 1) := by decide +kernel
theorem dX7_digest_54 : decode cX7_digest 54 = .ok (.aload_n 0, 1) := by decide +kernel
theorem dX7_digest_55 : decode cX7_digest 55 = .ok (.getfield 12, 3) := by decide +kernel
theorem dX7_digest_58 : decode cX7_digest 58 = .ok (.getfield 177, 3) := by decide +kernel
theorem dX7_digest_61 : decode cX7_digest 61 = .ok (.if_icmp .ge 16, 3) := by decide +kernel
theorem dX7_digest_64 : decode cX7_digest 64 = .ok (.aload_n 0, 1) := by decide +kernel
theorem dX7_digest_65 : decode cX7_digest 65 = .ok (.lload_n 1, 1) := by decide +kernel
theorem dX7_digest_66 : decode cX7_digest 66 = .ok (.iload_n 3, 1) := by decide +kernel
theorem dX7_digest_67 : decode cX7_digest 67 = .ok (.invokevirtual 310, 3) := by decide +kernel
theorem dX7_digest_70 : decode cX7_digest 70 = .ok (.lstore_n 1, 1) := by decide +kernel
theorem dX7_digest_71 : decode cX7_digest 71 = .ok (.iinc 3 1, 3) := by decide +kernel
theorem dX7_digest_74 : decode cX7_digest 74 = .ok (.goto (-21), 3) := by decide +kernel
theorem dX7_digest_77 : decode cX7_digest 77 = .ok (.iconst 0, 1) := by decide +kernel
theorem dX7_digest_78 : decode cX7_digest 78 = .ok (.istore_n 3, 1) := by decide +kernel
theorem dX7_digest_79 : decode cX7_digest 79 = .ok (.iload_n 3, 1) := by decide +kernel
theorem dX7_digest_80 : decode cX7_digest 80 = .ok (.aload_n 0, 1) := by decide +kernel
theorem dX7_digest_81 : decode cX7_digest 81 = .ok (.getfield 18, 3) := by decide +kernel
theorem dX7_digest_84 : decode cX7_digest 84 = .ok (.getfield 177, 3) := by decide +kernel
theorem dX7_digest_87 : decode cX7_digest 87 = .ok (.if_icmp .ge 16, 3) := by decide +kernel
theorem dX7_digest_90 : decode cX7_digest 90 = .ok (.aload_n 0, 1) := by decide +kernel
theorem dX7_digest_91 : decode cX7_digest 91 = .ok (.lload_n 1, 1) := by decide +kernel
theorem dX7_digest_92 : decode cX7_digest 92 = .ok (.iload_n 3, 1) := by decide +kernel
theorem dX7_digest_93 : decode cX7_digest 93 = .ok (.invokevirtual 314, 3) := by decide +kernel
theorem dX7_digest_96 : decode cX7_digest 96 = .ok (.lstore_n 1, 1) := by decide +kernel
theorem dX7_digest_97 : decode cX7_digest 97 = .ok (.iinc 3 1, 3) := by decide +kernel
theorem dX7_digest_100 : decode cX7_digest 100 = .ok (.goto (-21), 3) := by decide +kernel
theorem dX7_digest_103 : decode cX7_digest 103 = .ok (.aload_n 0, 1) := by decide +kernel
theorem dX7_digest_104 : decode cX7_digest 104 = .ok (.lload_n 1, 1) := by decide +kernel
theorem dX7_digest_105 : decode cX7_digest 105 = .ok (.iconst 0, 1) := by decide +kernel
theorem dX7_digest_106 : decode cX7_digest 106 = .ok (.invokevirtual 317, 3) := by decide +kernel
theorem dX7_digest_109 : decode cX7_digest 109 = .ok (.lstore_n 1, 1) := by decide +kernel
theorem dX7_digest_110 : decode cX7_digest 110 = .ok (.aload_n 0, 1) := by decide +kernel
theorem dX7_digest_111 : decode cX7_digest 111 = .ok (.lload_n 1, 1) := by decide +kernel
theorem dX7_digest_112 : decode cX7_digest 112 = .ok (.iconst 1, 1) := by decide +kernel
theorem dX7_digest_113 : decode cX7_digest 113 = .ok (.invokevirtual 317, 3) := by decide +kernel
theorem dX7_digest_116 : decode cX7_digest 116 = .ok (.lstore_n 1, 1) := by decide +kernel
theorem dX7_digest_117 : decode cX7_digest 117 = .ok (.aload_n 0, 1) := by decide +kernel
theorem dX7_digest_118 : decode cX7_digest 118 = .ok (.lload_n 1, 1) := by decide +kernel
theorem dX7_digest_119 : decode cX7_digest 119 = .ok (.iconst 5, 1) := by decide +kernel
theorem dX7_digest_120 : decode cX7_digest 120 = .ok (.invokevirtual 317, 3) := by decide +kernel
theorem dX7_digest_123 : decode cX7_digest 123 = .ok (.lstore_n 1, 1) := by decide +kernel
theorem dX7_digest_124 : decode cX7_digest 124 = .ok (.aload_n 0, 1) := by decide +kernel
theorem dX7_digest_125 : decode cX7_digest 125 = .ok (.lload_n 1, 1) := by decide +kernel
theorem dX7_digest_126 : decode cX7_digest 126 = .ok (.bipush 39, 2) := by decide +kernel
theorem dX7_digest_128 : decode cX7_digest 128 = .ok (.invokevirtual 317, 3) := by decide +kernel
theorem dX7_digest_131 : decode cX7_digest 131 = .ok (.lstore_n 1, 1) := by decide +kernel
theorem dX7_digest_132 : decode cX7_digest 132 = .ok (.aload_n 0, 1) := by decide +kernel
theorem dX7_digest_133 : decode cX7_digest 133 = .ok (.lload_n 1, 1) := by decide +kernel
theorem dX7_digest_134 : decode cX7_digest 134 = .ok (.invokevirtual 320, 3) := by decide +kernel
theorem dX7_digest_137 : decode cX7_digest 137 = .ok (.lreturn, 1) := by decide +kernel
theorem dX7_mixed_0 : decode cX7_mixed 0 = .ok (.ldc2_w 324, 3) := by decide +kernel
theorem dX7_mixed_3 : decode cX7_mixed 3 = .ok (.lload_n 0, 1) := by decide +kernel
theorem dX7_mixed_4 : decode cX7_mixed 4 = .ok (.lmul, 1) := by decide +kernel
theorem dX7_mixed_5 : decode cX7_mixed 5 = .ok (.lload_n 2, 1) := by decide +kernel
theorem dX7_mixed_6 : decode cX7_mixed 6 = .ok (.ladd, 1) := by decide +kernel
theorem dX7_mixed_7 : decode cX7_mixed 7 = .ok (.lreturn, 1) := by decide +kernel
theorem dX7_virtueMixed_0 : decode cX7_virtueMixed 0 = .ok (.lload_n 1, 1) := by decide +kernel
theorem dX7_virtueMixed_1 : decode cX7_virtueMixed 1 = .ok (.aload_n 0, 1) := by decide +kernel
theorem dX7_virtueMixed_2 : decode cX7_virtueMixed 2 = .ok (.iload_n 3, 1) := by decide +kernel
theorem dX7_virtueMixed_3 : decode cX7_virtueMixed 3 = .ok (.iconst 0, 1) := by decide +kernel
theorem dX7_virtueMixed_4 : decode cX7_virtueMixed 4 = .ok (.invokevirtual 326, 3) := by decide +kernel
theorem dX7_virtueMixed_7 : decode cX7_virtueMixed 7 = .ok (.i2l, 1) := by decide +kernel
theorem dX7_virtueMixed_8 : decode cX7_virtueMixed 8 = .ok (.invokestatic 303, 3) := by decide +kernel
theorem dX7_virtueMixed_11 : decode cX7_virtueMixed 11 = .ok (.lstore 4, 2) := by decide +kernel
theorem dX7_virtueMixed_13 : decode cX7_virtueMixed 13 = .ok (.lload 4, 2) := by decide +kernel
theorem dX7_virtueMixed_15 : decode cX7_virtueMixed 15 = .ok (.aload_n 0, 1) := by decide +kernel
theorem dX7_virtueMixed_16 : decode cX7_virtueMixed 16 = .ok (.iload_n 3, 1) := by decide +kernel
theorem dX7_virtueMixed_17 : decode cX7_virtueMixed 17 = .ok (.iconst 1, 1) := by decide +kernel
theorem dX7_virtueMixed_18 : decode cX7_virtueMixed 18 = .ok (.invokevirtual 326, 3) := by decide +kernel
theorem dX7_virtueMixed_21 : decode cX7_virtueMixed 21 = .ok (.i2l, 1) := by decide +kernel
theorem dX7_virtueMixed_22 : decode cX7_virtueMixed 22 = .ok (.invokestatic 303, 3) := by decide +kernel
theorem dX7_virtueMixed_25 : decode cX7_virtueMixed 25 = .ok (.lstore 4, 2) := by decide +kernel
theorem dX7_virtueMixed_27 : decode cX7_virtueMixed 27 = .ok (.lload 4, 2) := by decide +kernel
theorem dX7_virtueMixed_29 : decode cX7_virtueMixed 29 = .ok (.aload_n 0, 1) := by decide +kernel
theorem dX7_virtueMixed_30 : decode cX7_virtueMixed 30 = .ok (.iload_n 3, 1) := by decide +kernel
theorem dX7_virtueMixed_31 : decode cX7_virtueMixed 31 = .ok (.iconst 0, 1) := by decide +kernel
theorem dX7_virtueMixed_32 : decode cX7_virtueMixed 32 = .ok (.invokevirtual 329, 3) := by decide +kernel
theorem dX7_virtueMixed_35 : decode cX7_virtueMixed 35 = .ok (.i2l, 1) := by decide +kernel
theorem dX7_virtueMixed_36 : decode cX7_virtueMixed 36 = .ok (.invokestatic 303, 3) := by decide +kernel
theorem dX7_virtueMixed_39 : decode cX7_virtueMixed 39 = .ok (.lstore 4, 2) := by decide +kernel
theorem dX7_virtueMixed_41 : decode cX7_virtueMixed 41 = .ok (.lload 4, 2) := by decide +kernel
theorem dX7_virtueMixed_43 : decode cX7_virtueMixed 43 = .ok (.aload_n 0, 1) := by decide +kernel
theorem dX7_virtueMixed_44 : decode cX7_virtueMixed 44 = .ok (.iload_n 3, 1) := by decide +kernel
theorem dX7_virtueMixed_45 : decode cX7_virtueMixed 45 = .ok (.iconst 1, 1) := by decide +kernel
theorem dX7_virtueMixed_46 : decode cX7_virtueMixed 46 = .ok (.invokevirtual 329, 3) := by decide +kernel
theorem dX7_virtueMixed_49 : decode cX7_virtueMixed 49 = .ok (.i2l, 1) := by decide +kernel
theorem dX7_virtueMixed_50 : decode cX7_virtueMixed 50 = .ok (.invokestatic 303, 3) := by decide +kernel
theorem dX7_virtueMixed_53 : decode cX7_virtueMixed 53 = .ok (.lstore 4, 2) := by decide +kernel
theorem dX7_virtueMixed_55 : decode cX7_virtueMixed 55 = .ok (.lload 4, 2) := by decide +kernel
theorem dX7_virtueMixed_57 : decode cX7_virtueMixed 57 = .ok (.aload_n 0, 1) := by decide +kernel
theorem dX7_virtueMixed_58 : decode cX7_virtueMixed 58 = .ok (.iconst 1, 1) := by decide +kernel
theorem dX7_virtueMixed_59 : decode cX7_virtueMixed 59 = .ok (.iload_n 3, 1) := by decide +kernel
theorem dX7_virtueMixed_60 : decode cX7_virtueMixed 60 = .ok (.invokevirtual 332, 3) := by decide +kernel
theorem dX7_virtueMixed_63 : decode cX7_virtueMixed 63 = .ok (.i2l, 1) := by decide +kernel
theorem dX7_virtueMixed_64 : decode cX7_virtueMixed 64 = .ok (.invokestatic 303, 3) := by decide +kernel
theorem dX7_virtueMixed_67 : decode cX7_virtueMixed 67 = .ok (.lstore 4, 2) := by decide +kernel
theorem dX7_virtueMixed_69 : decode cX7_virtueMixed 69 = .ok (.lload 4, 2) := by decide +kernel
theorem dX7_virtueMixed_71 : decode cX7_virtueMixed 71 = .ok (.aload_n 0, 1) := by decide +kernel
theorem dX7_virtueMixed_72 : decode cX7_virtueMixed 72 = .ok (.iload_n 3, 1) := by decide +kernel
theorem dX7_virtueMixed_73 : decode cX7_virtueMixed 73 = .ok (.invokevirtual 335, 3) := by decide +kernel
theorem dX7_virtueMixed_76 : decode cX7_virtueMixed 76 = .ok (.i2l, 1) := by decide +kernel
theorem dX7_virtueMixed_77 : decode cX7_virtueMixed 77 = .ok (.invokestatic 303, 3) := by decide +kernel
theorem dX7_virtueMixed_80 : decode cX7_virtueMixed 80 = .ok (.lstore 4, 2) := by decide +kernel
theorem dX7_virtueMixed_82 : decode cX7_virtueMixed 82 = .ok (.lload 4, 2) := by decide +kernel
theorem dX7_virtueMixed_84 : decode cX7_virtueMixed 84 = .ok (.aload_n 0, 1) := by decide +kernel
theorem dX7_virtueMixed_85 : decode cX7_virtueMixed 85 = .ok (.iload_n 3, 1) := by decide +kernel
theorem dX7_virtueMixed_86 : decode cX7_virtueMixed 86 = .ok (.invokevirtual 338, 3) := by decide +kernel
theorem dX7_virtueMixed_89 : decode cX7_virtueMixed 89 = .ok (.i2l, 1) := by decide +kernel
theorem dX7_virtueMixed_90 : decode cX7_virtueMixed 90 = .ok (.invokestatic 303, 3) := by decide +kernel
theorem dX7_virtueMixed_93 : decode cX7_virtueMixed 93 = .ok (.lstore 4, 2) := by decide +kernel
theorem dX7_virtueMixed_95 : decode cX7_virtueMixed 95 = .ok (.lload 4, 2) := by decide +kernel
theorem dX7_virtueMixed_97 : decode cX7_virtueMixed 97 = .ok (.aload_n 0, 1) := by decide +kernel
theorem dX7_virtueMixed_98 : decode cX7_virtueMixed 98 = .ok (.iload_n 3, 1) := by decide +kernel
theorem dX7_virtueMixed_99 : decode cX7_virtueMixed 99 = .ok (.iconst 0, 1) := by decide +kernel
theorem dX7_virtueMixed_100 : decode cX7_virtueMixed 100 = .ok (.invokevirtual 341, 3) := by decide +kernel
theorem dX7_virtueMixed_103 : decode cX7_virtueMixed 103 = .ok (.invokestatic 303, 3) := by decide +kernel
theorem dX7_virtueMixed_106 : decode cX7_virtueMixed 106 = .ok (.lstore 4, 2) := by decide +kernel
theorem dX7_virtueMixed_108 : decode cX7_virtueMixed 108 = .ok (.lload 4, 2) := by decide +kernel
theorem dX7_virtueMixed_110 : decode cX7_virtueMixed 110 = .ok (.aload_n 0, 1) := by decide +kernel
theorem dX7_virtueMixed_111 : decode cX7_virtueMixed 111 = .ok (.iload_n 3, 1) := by decide +kernel
theorem dX7_virtueMixed_112 : decode cX7_virtueMixed 112 = .ok (.iconst 1, 1) := by decide +kernel
theorem dX7_virtueMixed_113 : decode cX7_virtueMixed 113 = .ok (.invokevirtual 341, 3) := by decide +kernel
theorem dX7_virtueMixed_116 : decode cX7_virtueMixed 116 = .ok (.invokestatic 303, 3) := by decide +kernel
theorem dX7_virtueMixed_119 : decode cX7_virtueMixed 119 = .ok (.lstore 4, 2) := by decide +kernel
theorem dX7_virtueMixed_121 : decode cX7_virtueMixed 121 = .ok (.lload 4, 2) := by decide +kernel
theorem dX7_virtueMixed_123 : decode cX7_virtueMixed 123 = .ok (.aload_n 0, 1) := by decide +kernel
theorem dX7_virtueMixed_124 : decode cX7_virtueMixed 124 = .ok (.iload_n 3, 1) := by decide +kernel
theorem dX7_virtueMixed_125 : decode cX7_virtueMixed 125 = .ok (.invokevirtual 345, 3) := by decide +kernel
theorem dX7_virtueMixed_128 : decode cX7_virtueMixed 128 = .ok (.i2l, 1) := by decide +kernel
theorem dX7_virtueMixed_129 : decode cX7_virtueMixed 129 = .ok (.invokestatic 303, 3) := by decide +kernel
theorem dX7_virtueMixed_132 : decode cX7_virtueMixed 132 = .ok (.lstore 4, 2) := by decide +kernel
theorem dX7_virtueMixed_134 : decode cX7_virtueMixed 134 = .ok (.lload 4, 2) := by decide +kernel
theorem dX7_virtueMixed_136 : decode cX7_virtueMixed 136 = .ok (.aload_n 0, 1) := by decide +kernel
theorem dX7_virtueMixed_137 : decode cX7_virtueMixed 137 = .ok (.iload_n 3, 1) := by decide +kernel
theorem dX7_virtueMixed_138 : decode cX7_virtueMixed 138 = .ok (.invokevirtual 348, 3) := by decide +kernel
theorem dX7_virtueMixed_141 : decode cX7_virtueMixed 141 = .ok (.i2l, 1) := by decide +kernel
theorem dX7_virtueMixed_142 : decode cX7_virtueMixed 142 = .ok (.invokestatic 303, 3) := by decide +kernel
theorem dX7_virtueMixed_145 : decode cX7_virtueMixed 145 = .ok (.lreturn, 1) := by decide +kernel
theorem dX7_claimantMixed_0 : decode cX7_claimantMixed 0 = .ok (.lload_n 1, 1) := by decide +kernel
theorem dX7_claimantMixed_1 : decode cX7_claimantMixed 1 = .ok (.aload_n 0, 1) := by decide +kernel
theorem dX7_claimantMixed_2 : decode cX7_claimantMixed 2 = .ok (.iload_n 3, 1) := by decide +kernel
theorem dX7_claimantMixed_3 : decode cX7_claimantMixed 3 = .ok (.iconst 0, 1) := by decide +kernel
theorem dX7_claimantMixed_4 : decode cX7_claimantMixed 4 = .ok (.invokevirtual 351, 3) := by decide +kernel
theorem dX7_claimantMixed_7 : decode cX7_claimantMixed 7 = .ok (.i2l, 1) := by decide +kernel
theorem dX7_claimantMixed_8 : decode cX7_claimantMixed 8 = .ok (.invokestatic 303, 3) := by decide +kernel
theorem dX7_claimantMixed_11 : decode cX7_claimantMixed 11 = .ok (.lstore 4, 2) := by decide +kernel
theorem dX7_claimantMixed_13 : decode cX7_claimantMixed 13 = .ok (.lload 4, 2) := by decide +kernel
theorem dX7_claimantMixed_15 : decode cX7_claimantMixed 15 = .ok (.aload_n 0, 1) := by decide +kernel
theorem dX7_claimantMixed_16 : decode cX7_claimantMixed 16 = .ok (.iload_n 3, 1) := by decide +kernel
theorem dX7_claimantMixed_17 : decode cX7_claimantMixed 17 = .ok (.iconst 1, 1) := by decide +kernel
theorem dX7_claimantMixed_18 : decode cX7_claimantMixed 18 = .ok (.invokevirtual 351, 3) := by decide +kernel
theorem dX7_claimantMixed_21 : decode cX7_claimantMixed 21 = .ok (.i2l, 1) := by decide +kernel
theorem dX7_claimantMixed_22 : decode cX7_claimantMixed 22 = .ok (.invokestatic 303, 3) := by decide +kernel
theorem dX7_claimantMixed_25 : decode cX7_claimantMixed 25 = .ok (.lstore 4, 2) := by decide +kernel
theorem dX7_claimantMixed_27 : decode cX7_claimantMixed 27 = .ok (.lload 4, 2) := by decide +kernel
theorem dX7_claimantMixed_29 : decode cX7_claimantMixed 29 = .ok (.aload_n 0, 1) := by decide +kernel
theorem dX7_claimantMixed_30 : decode cX7_claimantMixed 30 = .ok (.iload_n 3, 1) := by decide +kernel
theorem dX7_claimantMixed_31 : decode cX7_claimantMixed 31 = .ok (.iconst 2, 1) := by decide +kernel
theorem dX7_claimantMixed_32 : decode cX7_claimantMixed 32 = .ok (.invokevirtual 351, 3) := by decide +kernel
theorem dX7_claimantMixed_35 : decode cX7_claimantMixed 35 = .ok (.i2l, 1) := by decide +kernel
theorem dX7_claimantMixed_36 : decode cX7_claimantMixed 36 = .ok (.invokestatic 303, 3) := by decide +kernel
theorem dX7_claimantMixed_39 : decode cX7_claimantMixed 39 = .ok (.lstore 4, 2) := by decide +kernel
theorem dX7_claimantMixed_41 : decode cX7_claimantMixed 41 = .ok (.lload 4, 2) := by decide +kernel
theorem dX7_claimantMixed_43 : decode cX7_claimantMixed 43 = .ok (.aload_n 0, 1) := by decide +kernel
theorem dX7_claimantMixed_44 : decode cX7_claimantMixed 44 = .ok (.iconst 0, 1) := by decide +kernel
theorem dX7_claimantMixed_45 : decode cX7_claimantMixed 45 = .ok (.iload_n 3, 1) := by decide +kernel
theorem dX7_claimantMixed_46 : decode cX7_claimantMixed 46 = .ok (.invokevirtual 332, 3) := by decide +kernel
theorem dX7_claimantMixed_49 : decode cX7_claimantMixed 49 = .ok (.i2l, 1) := by decide +kernel
theorem dX7_claimantMixed_50 : decode cX7_claimantMixed 50 = .ok (.invokestatic 303, 3) := by decide +kernel
theorem dX7_claimantMixed_53 : decode cX7_claimantMixed 53 = .ok (.lstore 4, 2) := by decide +kernel
theorem dX7_claimantMixed_55 : decode cX7_claimantMixed 55 = .ok (.lload 4, 2) := by decide +kernel
theorem dX7_claimantMixed_57 : decode cX7_claimantMixed 57 = .ok (.aload_n 0, 1) := by decide +kernel
theorem dX7_claimantMixed_58 : decode cX7_claimantMixed 58 = .ok (.iload_n 3, 1) := by decide +kernel
theorem dX7_claimantMixed_59 : decode cX7_claimantMixed 59 = .ok (.invokevirtual 354, 3) := by decide +kernel
theorem dX7_claimantMixed_62 : decode cX7_claimantMixed 62 = .ok (.i2l, 1) := by decide +kernel
theorem dX7_claimantMixed_63 : decode cX7_claimantMixed 63 = .ok (.invokestatic 303, 3) := by decide +kernel
theorem dX7_claimantMixed_66 : decode cX7_claimantMixed 66 = .ok (.lreturn, 1) := by decide +kernel
theorem dX7_weekMixed_0 : decode cX7_weekMixed 0 = .ok (.lload_n 1, 1) := by decide +kernel
theorem dX7_weekMixed_1 : decode cX7_weekMixed 1 = .ok (.aload_n 0, 1) := by decide +kernel
theorem dX7_weekMixed_2 : decode cX7_weekMixed 2 = .ok (.iload_n 3, 1) := by decide +kernel
theorem dX7_weekMixed_3 : decode cX7_weekMixed 3 = .ok (.iconst 0, 1) := by decide +kernel
theorem dX7_weekMixed_4 : decode cX7_weekMixed 4 = .ok (.invokevirtual 357, 3) := by decide +kernel
theorem dX7_weekMixed_7 : decode cX7_weekMixed 7 = .ok (.i2l, 1) := by decide +kernel
theorem dX7_weekMixed_8 : decode cX7_weekMixed 8 = .ok (.invokestatic 303, 3) := by decide +kernel
theorem dX7_weekMixed_11 : decode cX7_weekMixed 11 = .ok (.lstore 4, 2) := by decide +kernel
theorem dX7_weekMixed_13 : decode cX7_weekMixed 13 = .ok (.lload 4, 2) := by decide +kernel
theorem dX7_weekMixed_15 : decode cX7_weekMixed 15 = .ok (.aload_n 0, 1) := by decide +kernel
theorem dX7_weekMixed_16 : decode cX7_weekMixed 16 = .ok (.iload_n 3, 1) := by decide +kernel
theorem dX7_weekMixed_17 : decode cX7_weekMixed 17 = .ok (.iconst 1, 1) := by decide +kernel
theorem dX7_weekMixed_18 : decode cX7_weekMixed 18 = .ok (.invokevirtual 357, 3) := by decide +kernel
theorem dX7_weekMixed_21 : decode cX7_weekMixed 21 = .ok (.i2l, 1) := by decide +kernel
theorem dX7_weekMixed_22 : decode cX7_weekMixed 22 = .ok (.invokestatic 303, 3) := by decide +kernel
theorem dX7_weekMixed_25 : decode cX7_weekMixed 25 = .ok (.lstore 4, 2) := by decide +kernel
theorem dX7_weekMixed_27 : decode cX7_weekMixed 27 = .ok (.lload 4, 2) := by decide +kernel
theorem dX7_weekMixed_29 : decode cX7_weekMixed 29 = .ok (.aload_n 0, 1) := by decide +kernel
theorem dX7_weekMixed_30 : decode cX7_weekMixed 30 = .ok (.iload_n 3, 1) := by decide +kernel
theorem dX7_weekMixed_31 : decode cX7_weekMixed 31 = .ok (.iconst 2, 1) := by decide +kernel
theorem dX7_weekMixed_32 : decode cX7_weekMixed 32 = .ok (.invokevirtual 357, 3) := by decide +kernel
theorem dX7_weekMixed_35 : decode cX7_weekMixed 35 = .ok (.i2l, 1) := by decide +kernel
theorem dX7_weekMixed_36 : decode cX7_weekMixed 36 = .ok (.invokestatic 303, 3) := by decide +kernel
theorem dX7_weekMixed_39 : decode cX7_weekMixed 39 = .ok (.lreturn, 1) := by decide +kernel
theorem dX7_wholeMixed_0 : decode cX7_wholeMixed 0 = .ok (.lload_n 1, 1) := by decide +kernel
theorem dX7_wholeMixed_1 : decode cX7_wholeMixed 1 = .ok (.aload_n 0, 1) := by decide +kernel
theorem dX7_wholeMixed_2 : decode cX7_wholeMixed 2 = .ok (.invokevirtual 360, 3) := by decide +kernel
theorem dX7_wholeMixed_5 : decode cX7_wholeMixed 5 = .ok (.i2l, 1) := by decide +kernel
theorem dX7_wholeMixed_6 : decode cX7_wholeMixed 6 = .ok (.invokestatic 303, 3) := by decide +kernel
theorem dX7_wholeMixed_9 : decode cX7_wholeMixed 9 = .ok (.lstore_n 3, 1) := by decide +kernel
theorem dX7_wholeMixed_10 : decode cX7_wholeMixed 10 = .ok (.lload_n 3, 1) := by decide +kernel
theorem dX7_wholeMixed_11 : decode cX7_wholeMixed 11 = .ok (.aload_n 0, 1) := by decide +kernel
theorem dX7_wholeMixed_12 : decode cX7_wholeMixed 12 = .ok (.invokevirtual 363, 3) := by decide +kernel
theorem dX7_wholeMixed_15 : decode cX7_wholeMixed 15 = .ok (.i2l, 1) := by decide +kernel
theorem dX7_wholeMixed_16 : decode cX7_wholeMixed 16 = .ok (.invokestatic 303, 3) := by decide +kernel
theorem dX7_wholeMixed_19 : decode cX7_wholeMixed 19 = .ok (.lstore_n 3, 1) := by decide +kernel
theorem dX7_wholeMixed_20 : decode cX7_wholeMixed 20 = .ok (.lload_n 3, 1) := by decide +kernel
theorem dX7_wholeMixed_21 : decode cX7_wholeMixed 21 = .ok (.aload_n 0, 1) := by decide +kernel
theorem dX7_wholeMixed_22 : decode cX7_wholeMixed 22 = .ok (.invokevirtual 366, 3) := by decide +kernel
theorem dX7_wholeMixed_25 : decode cX7_wholeMixed 25 = .ok (.i2l, 1) := by decide +kernel
theorem dX7_wholeMixed_26 : decode cX7_wholeMixed 26 = .ok (.invokestatic 303, 3) := by decide +kernel
theorem dX7_wholeMixed_29 : decode cX7_wholeMixed 29 = .ok (.lstore_n 3, 1) := by decide +kernel
theorem dX7_wholeMixed_30 : decode cX7_wholeMixed 30 = .ok (.lload_n 3, 1) := by decide +kernel
theorem dX7_wholeMixed_31 : decode cX7_wholeMixed 31 = .ok (.aload_n 0, 1) := by decide +kernel
theorem dX7_wholeMixed_32 : decode cX7_wholeMixed 32 = .ok (.bipush (-2), 2) := by decide +kernel
theorem dX7_wholeMixed_34 : decode cX7_wholeMixed 34 = .ok (.invokevirtual 335, 3) := by decide +kernel
theorem dX7_wholeMixed_37 : decode cX7_wholeMixed 37 = .ok (.i2l, 1) := by decide +kernel
theorem dX7_wholeMixed_38 : decode cX7_wholeMixed 38 = .ok (.invokestatic 303, 3) := by decide +kernel
theorem dX7_wholeMixed_41 : decode cX7_wholeMixed 41 = .ok (.lstore_n 3, 1) := by decide +kernel
theorem dX7_wholeMixed_42 : decode cX7_wholeMixed 42 = .ok (.lload_n 3, 1) := by decide +kernel
theorem dX7_wholeMixed_43 : decode cX7_wholeMixed 43 = .ok (.aload_n 0, 1) := by decide +kernel
theorem dX7_wholeMixed_44 : decode cX7_wholeMixed 44 = .ok (.iconst (-1), 1) := by decide +kernel
theorem dX7_wholeMixed_45 : decode cX7_wholeMixed 45 = .ok (.invokevirtual 335, 3) := by decide +kernel
theorem dX7_wholeMixed_48 : decode cX7_wholeMixed 48 = .ok (.i2l, 1) := by decide +kernel
theorem dX7_wholeMixed_49 : decode cX7_wholeMixed 49 = .ok (.invokestatic 303, 3) := by decide +kernel
theorem dX7_wholeMixed_52 : decode cX7_wholeMixed 52 = .ok (.lstore_n 3, 1) := by decide +kernel
theorem dX7_wholeMixed_53 : decode cX7_wholeMixed 53 = .ok (.lload_n 3, 1) := by decide +kernel
theorem dX7_wholeMixed_54 : decode cX7_wholeMixed 54 = .ok (.aload_n 0, 1) := by decide +kernel
theorem dX7_wholeMixed_55 : decode cX7_wholeMixed 55 = .ok (.bipush 8, 2) := by decide +kernel
theorem dX7_wholeMixed_57 : decode cX7_wholeMixed 57 = .ok (.invokevirtual 368, 3) := by decide +kernel
theorem dX7_wholeMixed_60 : decode cX7_wholeMixed 60 = .ok (.i2l, 1) := by decide +kernel
theorem dX7_wholeMixed_61 : decode cX7_wholeMixed 61 = .ok (.invokestatic 303, 3) := by decide +kernel
theorem dX7_wholeMixed_64 : decode cX7_wholeMixed 64 = .ok (.lstore_n 3, 1) := by decide +kernel
theorem dX7_wholeMixed_65 : decode cX7_wholeMixed 65 = .ok (.lload_n 3, 1) := by decide +kernel
theorem dX7_wholeMixed_66 : decode cX7_wholeMixed 66 = .ok (.aload_n 0, 1) := by decide +kernel
theorem dX7_wholeMixed_67 : decode cX7_wholeMixed 67 = .ok (.iconst (-1), 1) := by decide +kernel
theorem dX7_wholeMixed_68 : decode cX7_wholeMixed 68 = .ok (.invokevirtual 371, 3) := by decide +kernel
theorem dX7_wholeMixed_71 : decode cX7_wholeMixed 71 = .ok (.i2l, 1) := by decide +kernel
theorem dX7_wholeMixed_72 : decode cX7_wholeMixed 72 = .ok (.invokestatic 303, 3) := by decide +kernel
theorem dX7_wholeMixed_75 : decode cX7_wholeMixed 75 = .ok (.lstore_n 3, 1) := by decide +kernel
theorem dX7_wholeMixed_76 : decode cX7_wholeMixed 76 = .ok (.lload_n 3, 1) := by decide +kernel
theorem dX7_wholeMixed_77 : decode cX7_wholeMixed 77 = .ok (.aload_n 0, 1) := by decide +kernel
theorem dX7_wholeMixed_78 : decode cX7_wholeMixed 78 = .ok (.iconst 0, 1) := by decide +kernel
theorem dX7_wholeMixed_79 : decode cX7_wholeMixed 79 = .ok (.invokevirtual 371, 3) := by decide +kernel
theorem dX7_wholeMixed_82 : decode cX7_wholeMixed 82 = .ok (.i2l, 1) := by decide +kernel
theorem dX7_wholeMixed_83 : decode cX7_wholeMixed 83 = .ok (.invokestatic 303, 3) := by decide +kernel
theorem dX7_wholeMixed_86 : decode cX7_wholeMixed 86 = .ok (.lstore_n 3, 1) := by decide +kernel
theorem dX7_wholeMixed_87 : decode cX7_wholeMixed 87 = .ok (.lload_n 3, 1) := by decide +kernel
theorem dX7_wholeMixed_88 : decode cX7_wholeMixed 88 = .ok (.aload_n 0, 1) := by decide +kernel
theorem dX7_wholeMixed_89 : decode cX7_wholeMixed 89 = .ok (.iconst (-1), 1) := by decide +kernel
theorem dX7_wholeMixed_90 : decode cX7_wholeMixed 90 = .ok (.invokevirtual 345, 3) := by decide +kernel
theorem dX7_wholeMixed_93 : decode cX7_wholeMixed 93 = .ok (.i2l, 1) := by decide +kernel
theorem dX7_wholeMixed_94 : decode cX7_wholeMixed 94 = .ok (.invokestatic 303, 3) := by decide +kernel
theorem dX7_wholeMixed_97 : decode cX7_wholeMixed 97 = .ok (.lstore_n 3, 1) := by decide +kernel
theorem dX7_wholeMixed_98 : decode cX7_wholeMixed 98 = .ok (.lload_n 3, 1) := by decide +kernel
theorem dX7_wholeMixed_99 : decode cX7_wholeMixed 99 = .ok (.aload_n 0, 1) := by decide +kernel
theorem dX7_wholeMixed_100 : decode cX7_wholeMixed 100 = .ok (.bipush 7, 2) := by decide +kernel
theorem dX7_wholeMixed_102 : decode cX7_wholeMixed 102 = .ok (.bipush 20, 2) := by decide +kernel
theorem dX7_wholeMixed_104 : decode cX7_wholeMixed 104 = .ok (.iconst 0, 1) := by decide +kernel
theorem dX7_wholeMixed_105 : decode cX7_wholeMixed 105 = .ok (.invokevirtual 374, 3) := by decide +kernel
theorem dX7_wholeMixed_108 : decode cX7_wholeMixed 108 = .ok (.i2l, 1) := by decide +kernel
theorem dX7_wholeMixed_109 : decode cX7_wholeMixed 109 = .ok (.invokestatic 303, 3) := by decide +kernel
theorem dX7_wholeMixed_112 : decode cX7_wholeMixed 112 = .ok (.lstore_n 3, 1) := by decide +kernel
theorem dX7_wholeMixed_113 : decode cX7_wholeMixed 113 = .ok (.lload_n 3, 1) := by decide +kernel
theorem dX7_wholeMixed_114 : decode cX7_wholeMixed 114 = .ok (.aload_n 0, 1) := by decide +kernel
theorem dX7_wholeMixed_115 : decode cX7_wholeMixed 115 = .ok (.bipush 7, 2) := by decide +kernel
theorem dX7_wholeMixed_117 : decode cX7_wholeMixed 117 = .ok (.bipush 20, 2) := by decide +kernel
theorem dX7_wholeMixed_119 : decode cX7_wholeMixed 119 = .ok (.iconst 1, 1) := by decide +kernel
theorem dX7_wholeMixed_120 : decode cX7_wholeMixed 120 = .ok (.invokevirtual 374, 3) := by decide +kernel
theorem dX7_wholeMixed_123 : decode cX7_wholeMixed 123 = .ok (.i2l, 1) := by decide +kernel
theorem dX7_wholeMixed_124 : decode cX7_wholeMixed 124 = .ok (.invokestatic 303, 3) := by decide +kernel
theorem dX7_wholeMixed_127 : decode cX7_wholeMixed 127 = .ok (.lreturn, 1) := by decide +kernel
theorem dX7_outside_0 : decode cX7_outside 0 = .ok (.iload_n 0, 1) := by decide +kernel
theorem dX7_outside_1 : decode cX7_outside 1 = .ok (.ifCond .lt 8, 3) := by decide +kernel
theorem dX7_outside_4 : decode cX7_outside 4 = .ok (.iload_n 0, 1) := by decide +kernel
theorem dX7_outside_5 : decode cX7_outside 5 = .ok (.iload_n 1, 1) := by decide +kernel
theorem dX7_outside_6 : decode cX7_outside 6 = .ok (.if_icmp .lt 7, 3) := by decide +kernel
theorem dX7_outside_9 : decode cX7_outside 9 = .ok (.iconst 1, 1) := by decide +kernel
theorem dX7_outside_10 : decode cX7_outside 10 = .ok (.goto 4, 3) := by decide +kernel
theorem dX7_outside_13 : decode cX7_outside 13 = .ok (.iconst 0, 1) := by decide +kernel
theorem dX7_outside_14 : decode cX7_outside 14 = .ok (.ireturn, 1) := by decide +kernel
theorem dX7_noVirtue_0 : decode cX7_noVirtue 0 = .ok (.iload_n 1, 1) := by decide +kernel
theorem dX7_noVirtue_1 : decode cX7_noVirtue 1 = .ok (.aload_n 0, 1) := by decide +kernel
theorem dX7_noVirtue_2 : decode cX7_noVirtue 2 = .ok (.getfield 12, 3) := by decide +kernel
theorem dX7_noVirtue_5 : decode cX7_noVirtue 5 = .ok (.getfield 177, 3) := by decide +kernel
theorem dX7_noVirtue_8 : decode cX7_noVirtue 8 = .ok (.invokestatic 73, 3) := by decide +kernel
theorem dX7_noVirtue_11 : decode cX7_noVirtue 11 = .ok (.ireturn, 1) := by decide +kernel
theorem dX7_noClaimant_0 : decode cX7_noClaimant 0 = .ok (.iload_n 1, 1) := by decide +kernel
theorem dX7_noClaimant_1 : decode cX7_noClaimant 1 = .ok (.aload_n 0, 1) := by decide +kernel
theorem dX7_noClaimant_2 : decode cX7_noClaimant 2 = .ok (.getfield 18, 3) := by decide +kernel
theorem dX7_noClaimant_5 : decode cX7_noClaimant 5 = .ok (.getfield 177, 3) := by decide +kernel
theorem dX7_noClaimant_8 : decode cX7_noClaimant 8 = .ok (.invokestatic 73, 3) := by decide +kernel
theorem dX7_noClaimant_11 : decode cX7_noClaimant 11 = .ok (.ireturn, 1) := by decide +kernel
theorem dX7_textOf_0 : decode cX7_textOf 0 = .ok (.iload_n 1, 1) := by decide +kernel
theorem dX7_textOf_1 : decode cX7_textOf 1 = .ok (.ifCond .ne 10, 3) := by decide +kernel
theorem dX7_textOf_4 : decode cX7_textOf 4 = .ok (.aload_n 0, 1) := by decide +kernel
theorem dX7_textOf_5 : decode cX7_textOf 5 = .ok (.getfield 12, 3) := by decide +kernel
theorem dX7_textOf_8 : decode cX7_textOf 8 = .ok (.goto 7, 3) := by decide +kernel
theorem dX7_textOf_11 : decode cX7_textOf 11 = .ok (.aload_n 0, 1) := by decide +kernel
theorem dX7_textOf_12 : decode cX7_textOf 12 = .ok (.getfield 18, 3) := by decide +kernel
theorem dX7_textOf_15 : decode cX7_textOf 15 = .ok (.areturn, 1) := by decide +kernel
theorem dX7_textChanged_0 : decode cX7_textChanged 0 = .ok (.aload_n 0, 1) := by decide +kernel
theorem dX7_textChanged_1 : decode cX7_textChanged 1 = .ok (.iconst 0, 1) := by decide +kernel
theorem dX7_textChanged_2 : decode cX7_textChanged 2 = .ok (.putfield 128, 3) := by decide +kernel
theorem dX7_textChanged_5 : decode cX7_textChanged 5 = .ok (.aload_n 0, 1) := by decide +kernel
theorem dX7_textChanged_6 : decode cX7_textChanged 6 = .ok (.iconst 0, 1) := by decide +kernel
theorem dX7_textChanged_7 : decode cX7_textChanged 7 = .ok (.putfield 377, 3) := by decide +kernel
theorem dX7_textChanged_10 : decode cX7_textChanged 10 = .ok (.return_, 1) := by decide +kernel
theorem dX7_found_0 : decode cX7_found 0 = .ok (.aload_n 0, 1) := by decide +kernel
theorem dX7_found_1 : decode cX7_found 1 = .ok (.iload_n 1, 1) := by decide +kernel
theorem dX7_found_2 : decode cX7_found 2 = .ok (.putfield 280, 3) := by decide +kernel
theorem dX7_found_5 : decode cX7_found 5 = .ok (.bipush (-10), 2) := by decide +kernel
theorem dX7_found_7 : decode cX7_found 7 = .ok (.iload_n 1, 1) := by decide +kernel
theorem dX7_found_8 : decode cX7_found 8 = .ok (.isub, 1) := by decide +kernel
theorem dX7_found_9 : decode cX7_found 9 = .ok (.ireturn, 1) := by decide +kernel
theorem dX7_toldRun_0 : decode cX7_toldRun 0 = .ok (.aload_n 0, 1) := by decide +kernel
theorem dX7_toldRun_1 : decode cX7_toldRun 1 = .ok (.getfield 128, 3) := by decide +kernel
theorem dX7_toldRun_4 : decode cX7_toldRun 4 = .ok (.ifCond .ne 32, 3) := by decide +kernel
theorem dX7_toldRun_7 : decode cX7_toldRun 7 = .ok (.aload_n 0, 1) := by decide +kernel
theorem dX7_toldRun_8 : decode cX7_toldRun 8 = .ok (.getfield 52, 3) := by decide +kernel
theorem dX7_toldRun_11 : decode cX7_toldRun 11 = .ok (.aload_n 0, 1) := by decide +kernel
theorem dX7_toldRun_12 : decode cX7_toldRun 12 = .ok (.getfield 33, 3) := by decide +kernel
theorem dX7_toldRun_15 : decode cX7_toldRun 15 = .ok (.aload_n 0, 1) := by decide +kernel
theorem dX7_toldRun_16 : decode cX7_toldRun 16 = .ok (.getfield 37, 3) := by decide +kernel
theorem dX7_toldRun_19 : decode cX7_toldRun 19 = .ok (.invokevirtual 253, 3) := by decide +kernel
theorem dX7_toldRun_22 : decode cX7_toldRun 22 = .ok (.aload_n 0, 1) := by decide +kernel
theorem dX7_toldRun_23 : decode cX7_toldRun 23 = .ok (.getfield 52, 3) := by decide +kernel
theorem dX7_toldRun_26 : decode cX7_toldRun 26 = .ok (.bipush 39, 2) := by decide +kernel
theorem dX7_toldRun_28 : decode cX7_toldRun 28 = .ok (.invokevirtual 264, 3) := by decide +kernel
theorem dX7_toldRun_31 : decode cX7_toldRun 31 = .ok (.aload_n 0, 1) := by decide +kernel
theorem dX7_toldRun_32 : decode cX7_toldRun 32 = .ok (.iconst 1, 1) := by decide +kernel
theorem dX7_toldRun_33 : decode cX7_toldRun 33 = .ok (.putfield 128, 3) := by decide +kernel
theorem dX7_toldRun_36 : decode cX7_toldRun 36 = .ok (.aload_n 0, 1) := by decide +kernel
theorem dX7_toldRun_37 : decode cX7_toldRun 37 = .ok (.getfield 52, 3) := by decide +kernel
theorem dX7_toldRun_40 : decode cX7_toldRun 40 = .ok (.areturn, 1) := by decide +kernel
theorem dX7_bestRows_0 : decode cX7_bestRows 0 = .ok (.aload_n 0, 1) := by decide +kernel
theorem dX7_bestRows_1 : decode cX7_bestRows 1 = .ok (.getfield 377, 3) := by decide +kernel
theorem dX7_bestRows_4 : decode cX7_bestRows 4 = .ok (.ifCond .ne 30, 3) := by decide +kernel
theorem dX7_bestRows_7 : decode cX7_bestRows 7 = .ok (.aload_n 0, 1) := by decide +kernel
theorem dX7_bestRows_8 : decode cX7_bestRows 8 = .ok (.getfield 62, 3) := by decide +kernel
theorem dX7_bestRows_11 : decode cX7_bestRows 11 = .ok (.aload_n 0, 1) := by decide +kernel
theorem dX7_bestRows_12 : decode cX7_bestRows 12 = .ok (.getfield 26, 3) := by decide +kernel
theorem dX7_bestRows_15 : decode cX7_bestRows 15 = .ok (.invokevirtual 380, 3) := by decide +kernel
theorem dX7_bestRows_18 : decode cX7_bestRows 18 = .ok (.aload_n 0, 1) := by decide +kernel
theorem dX7_bestRows_19 : decode cX7_bestRows 19 = .ok (.getfield 62, 3) := by decide +kernel
theorem dX7_bestRows_22 : decode cX7_bestRows 22 = .ok (.aload_n 0, 1) := by decide +kernel
theorem dX7_bestRows_23 : decode cX7_bestRows 23 = .ok (.getfield 12, 3) := by decide +kernel
theorem dX7_bestRows_26 : decode cX7_bestRows 26 = .ok (.invokevirtual 383, 3) := by decide +kernel
theorem dX7_bestRows_29 : decode cX7_bestRows 29 = .ok (.aload_n 0, 1) := by decide +kernel
theorem dX7_bestRows_30 : decode cX7_bestRows 30 = .ok (.iconst 1, 1) := by decide +kernel
theorem dX7_bestRows_31 : decode cX7_bestRows 31 = .ok (.putfield 377, 3) := by decide +kernel
theorem dX7_bestRows_34 : decode cX7_bestRows 34 = .ok (.aload_n 0, 1) := by decide +kernel
theorem dX7_bestRows_35 : decode cX7_bestRows 35 = .ok (.getfield 62, 3) := by decide +kernel
theorem dX7_bestRows_38 : decode cX7_bestRows 38 = .ok (.areturn, 1) := by decide +kernel
theorem dX7_greatestDivisor_0 : decode cX7_greatestDivisor 0 = .ok (.iload_n 0, 1) := by decide +kernel
theorem dX7_greatestDivisor_1 : decode cX7_greatestDivisor 1 = .ok (.iload_n 1, 1) := by decide +kernel
theorem dX7_greatestDivisor_2 : decode cX7_greatestDivisor 2 = .ok (.invokestatic 237, 3) := by decide +kernel
theorem dX7_greatestDivisor_5 : decode cX7_greatestDivisor 5 = .ok (.istore_n 2, 1) := by decide +kernel
theorem dX7_greatestDivisor_6 : decode cX7_greatestDivisor 6 = .ok (.iload_n 2, 1) := by decide +kernel
theorem dX7_greatestDivisor_7 : decode cX7_greatestDivisor 7 = .ok (.iconst 1, 1) := by decide +kernel
theorem dX7_greatestDivisor_8 : decode cX7_greatestDivisor 8 = .ok (.if_icmp .le 23, 3) := by decide +kernel
theorem dX7_greatestDivisor_11 : decode cX7_greatestDivisor 11 = .ok (.iload_n 0, 1) := by decide +kernel
theorem dX7_greatestDivisor_12 : decode cX7_greatestDivisor 12 = .ok (.iload_n 2, 1) := by decide +kernel
theorem dX7_greatestDivisor_13 : decode cX7_greatestDivisor 13 = .ok (.irem, 1) := by decide +kernel
theorem dX7_greatestDivisor_14 : decode cX7_greatestDivisor 14 = .ok (.ifCond .ne 11, 3) := by decide +kernel
theorem dX7_greatestDivisor_17 : decode cX7_greatestDivisor 17 = .ok (.iload_n 1, 1) := by decide +kernel
theorem dX7_greatestDivisor_18 : decode cX7_greatestDivisor 18 = .ok (.iload_n 2, 1) := by decide +kernel
theorem dX7_greatestDivisor_19 : decode cX7_greatestDivisor 19 = .ok (.irem, 1) := by decide +kernel
theorem dX7_greatestDivisor_20 : decode cX7_greatestDivisor 20 = .ok (.ifCond .ne 5, 3) := by decide +kernel
theorem dX7_greatestDivisor_23 : decode cX7_greatestDivisor 23 = .ok (.iload_n 2, 1) := by decide +kernel
theorem dX7_greatestDivisor_24 : decode cX7_greatestDivisor 24 = .ok (.ireturn, 1) := by decide +kernel
theorem dX7_greatestDivisor_25 : decode cX7_greatestDivisor 25 = .ok (.iinc 2 (-1), 3) := by decide +kernel
theorem dX7_greatestDivisor_28 : decode cX7_greatestDivisor 28 = .ok (.goto (-22), 3) := by decide +kernel
theorem dX7_greatestDivisor_31 : decode cX7_greatestDivisor 31 = .ok (.iconst 1, 1) := by decide +kernel
theorem dX7_greatestDivisor_32 : decode cX7_greatestDivisor 32 = .ok (.ireturn, 1) := by decide +kernel
theorem dX7_guarded_0 : decode cX7_guarded 0 = .ok (.iconst 0, 1) := by decide +kernel
theorem dX7_guarded_1 : decode cX7_guarded 1 = .ok (.istore_n 3, 1) := by decide +kernel
theorem dX7_guarded_2 : decode cX7_guarded 2 = .ok (.iload_n 3, 1) := by decide +kernel
theorem dX7_guarded_3 : decode cX7_guarded 3 = .ok (.aload_n 0, 1) := by decide +kernel
theorem dX7_guarded_4 : decode cX7_guarded 4 = .ok (.getfield 12, 3) := by decide +kernel
theorem dX7_guarded_7 : decode cX7_guarded 7 = .ok (.getfield 177, 3) := by decide +kernel
theorem dX7_guarded_10 : decode cX7_guarded 10 = .ok (.if_icmp .ge 44, 3) := by decide +kernel
theorem dX7_guarded_13 : decode cX7_guarded 13 = .ok (.aload_n 0, 1) := by decide +kernel
theorem dX7_guarded_14 : decode cX7_guarded 14 = .ok (.getfield 26, 3) := by decide +kernel
theorem dX7_guarded_17 : decode cX7_guarded 17 = .ok (.iload_n 3, 1) := by decide +kernel
theorem dX7_guarded_18 : decode cX7_guarded 18 = .ok (.iload_n 1, 1) := by decide +kernel
theorem dX7_guarded_19 : decode cX7_guarded 19 = .ok (.invokevirtual 225, 3) := by decide +kernel
theorem dX7_guarded_22 : decode cX7_guarded 22 = .ok (.istore 4, 2) := by decide +kernel
theorem dX7_guarded_24 : decode cX7_guarded 24 = .ok (.aload_n 0, 1) := by decide +kernel
theorem dX7_guarded_25 : decode cX7_guarded 25 = .ok (.getfield 26, 3) := by decide +kernel
theorem dX7_guarded_28 : decode cX7_guarded 28 = .ok (.iload 4, 2) := by decide +kernel
theorem dX7_guarded_30 : decode cX7_guarded 30 = .ok (.invokevirtual 228, 3) := by decide +kernel
theorem dX7_guarded_33 : decode cX7_guarded 33 = .ok (.bipush 16, 2) := by decide +kernel
theorem dX7_guarded_35 : decode cX7_guarded 35 = .ok (.imul, 1) := by decide +kernel
theorem dX7_guarded_36 : decode cX7_guarded 36 = .ok (.iload_n 2, 1) := by decide +kernel
theorem dX7_guarded_37 : decode cX7_guarded 37 = .ok (.iload 4, 2) := by decide +kernel
theorem dX7_guarded_39 : decode cX7_guarded 39 = .ok (.invokestatic 210, 3) := by decide +kernel
theorem dX7_guarded_42 : decode cX7_guarded 42 = .ok (.imul, 1) := by decide +kernel
theorem dX7_guarded_43 : decode cX7_guarded 43 = .ok (.if_icmp .le 5, 3) := by decide +kernel
theorem dX7_guarded_46 : decode cX7_guarded 46 = .ok (.iconst 0, 1) := by decide +kernel
theorem dX7_guarded_47 : decode cX7_guarded 47 = .ok (.ireturn, 1) := by decide +kernel
theorem dX7_guarded_48 : decode cX7_guarded 48 = .ok (.iinc 3 1, 3) := by decide +kernel
theorem dX7_guarded_51 : decode cX7_guarded 51 = .ok (.goto (-49), 3) := by decide +kernel
theorem dX7_guarded_54 : decode cX7_guarded 54 = .ok (.iconst 1, 1) := by decide +kernel
theorem dX7_guarded_55 : decode cX7_guarded 55 = .ok (.ireturn, 1) := by decide +kernel
theorem dX7_shelfPlace_0 : decode cX7_shelfPlace 0 = .ok (.aload_n 0, 1) := by decide +kernel
theorem dX7_shelfPlace_1 : decode cX7_shelfPlace 1 = .ok (.getfield 26, 3) := by decide +kernel
theorem dX7_shelfPlace_4 : decode cX7_shelfPlace 4 = .ok (.iload_n 1, 1) := by decide +kernel
theorem dX7_shelfPlace_5 : decode cX7_shelfPlace 5 = .ok (.invokevirtual 243, 3) := by decide +kernel
theorem dX7_shelfPlace_8 : decode cX7_shelfPlace 8 = .ok (.istore_n 3, 1) := by decide +kernel
theorem dX7_shelfPlace_9 : decode cX7_shelfPlace 9 = .ok (.iconst 0, 1) := by decide +kernel
theorem dX7_shelfPlace_10 : decode cX7_shelfPlace 10 = .ok (.istore 4, 2) := by decide +kernel
theorem dX7_shelfPlace_12 : decode cX7_shelfPlace 12 = .ok (.iconst 0, 1) := by decide +kernel
theorem dX7_shelfPlace_13 : decode cX7_shelfPlace 13 = .ok (.istore 5, 2) := by decide +kernel
theorem dX7_shelfPlace_15 : decode cX7_shelfPlace 15 = .ok (.iload 5, 2) := by decide +kernel
theorem dX7_shelfPlace_17 : decode cX7_shelfPlace 17 = .ok (.iload_n 2, 1) := by decide +kernel
theorem dX7_shelfPlace_18 : decode cX7_shelfPlace 18 = .ok (.if_icmp .ge 41, 3) := by decide +kernel
theorem dX7_shelfPlace_21 : decode cX7_shelfPlace 21 = .ok (.aload_n 0, 1) := by decide +kernel
theorem dX7_shelfPlace_22 : decode cX7_shelfPlace 22 = .ok (.getfield 26, 3) := by decide +kernel
theorem dX7_shelfPlace_25 : decode cX7_shelfPlace 25 = .ok (.iload 5, 2) := by decide +kernel
theorem dX7_shelfPlace_27 : decode cX7_shelfPlace 27 = .ok (.invokevirtual 243, 3) := by decide +kernel
theorem dX7_shelfPlace_30 : decode cX7_shelfPlace 30 = .ok (.istore 6, 2) := by decide +kernel
theorem dX7_shelfPlace_32 : decode cX7_shelfPlace 32 = .ok (.iload 6, 2) := by decide +kernel
theorem dX7_shelfPlace_34 : decode cX7_shelfPlace 34 = .ok (.iload_n 3, 1) := by decide +kernel
theorem dX7_shelfPlace_35 : decode cX7_shelfPlace 35 = .ok (.if_icmp .gt 15, 3) := by decide +kernel
theorem dX7_shelfPlace_38 : decode cX7_shelfPlace 38 = .ok (.iload 6, 2) := by decide +kernel
theorem dX7_shelfPlace_40 : decode cX7_shelfPlace 40 = .ok (.iload_n 3, 1) := by decide +kernel
theorem dX7_shelfPlace_41 : decode cX7_shelfPlace 41 = .ok (.if_icmp .ne 12, 3) := by decide +kernel
theorem dX7_shelfPlace_44 : decode cX7_shelfPlace 44 = .ok (.iload 5, 2) := by decide +kernel
theorem dX7_shelfPlace_46 : decode cX7_shelfPlace 46 = .ok (.iload_n 1, 1) := by decide +kernel
theorem dX7_shelfPlace_47 : decode cX7_shelfPlace 47 = .ok (.if_icmp .ge 6, 3) := by decide +kernel
theorem dX7_shelfPlace_50 : decode cX7_shelfPlace 50 = .ok (.iinc 4 1, 3) := by decide +kernel
theorem dX7_shelfPlace_53 : decode cX7_shelfPlace 53 = .ok (.iinc 5 1, 3) := by decide +kernel
theorem dX7_shelfPlace_56 : decode cX7_shelfPlace 56 = .ok (.goto (-41), 3) := by decide +kernel
theorem dX7_shelfPlace_59 : decode cX7_shelfPlace 59 = .ok (.iload 4, 2) := by decide +kernel
theorem dX7_shelfPlace_61 : decode cX7_shelfPlace 61 = .ok (.ireturn, 1) := by decide +kernel
theorem dX7_comesOutSo_0 : decode cX7_comesOutSo 0 = .ok (.aload_n 0, 1) := by decide +kernel
theorem dX7_comesOutSo_1 : decode cX7_comesOutSo 1 = .ok (.getfield 56, 3) := by decide +kernel
theorem dX7_comesOutSo_4 : decode cX7_comesOutSo 4 = .ok (.getfield 387, 3) := by decide +kernel
theorem dX7_comesOutSo_7 : decode cX7_comesOutSo 7 = .ok (.iload_n 1, 1) := by decide +kernel
theorem dX7_comesOutSo_8 : decode cX7_comesOutSo 8 = .ok (.iaload, 1) := by decide +kernel
theorem dX7_comesOutSo_9 : decode cX7_comesOutSo 9 = .ok (.istore_n 3, 1) := by decide +kernel
theorem dX7_comesOutSo_10 : decode cX7_comesOutSo 10 = .ok (.aload_n 0, 1) := by decide +kernel
theorem dX7_comesOutSo_11 : decode cX7_comesOutSo 11 = .ok (.getfield 56, 3) := by decide +kernel
theorem dX7_comesOutSo_14 : decode cX7_comesOutSo 14 = .ok (.iload_n 1, 1) := by decide +kernel
theorem dX7_comesOutSo_15 : decode cX7_comesOutSo 15 = .ok (.iload_n 2, 1) := by decide +kernel
theorem dX7_comesOutSo_16 : decode cX7_comesOutSo 16 = .ok (.invokevirtual 390, 3) := by decide +kernel
theorem dX7_comesOutSo_19 : decode cX7_comesOutSo 19 = .ok (.aload_n 0, 1) := by decide +kernel
theorem dX7_comesOutSo_20 : decode cX7_comesOutSo 20 = .ok (.getfield 56, 3) := by decide +kernel
theorem dX7_comesOutSo_23 : decode cX7_comesOutSo 23 = .ok (.aload_n 0, 1) := by decide +kernel
theorem dX7_comesOutSo_24 : decode cX7_comesOutSo 24 = .ok (.getfield 43, 3) := by decide +kernel
theorem dX7_comesOutSo_27 : decode cX7_comesOutSo 27 = .ok (.invokevirtual 393, 3) := by decide +kernel
theorem dX7_comesOutSo_30 : decode cX7_comesOutSo 30 = .ok (.invokevirtual 264, 3) := by decide +kernel
theorem dX7_comesOutSo_33 : decode cX7_comesOutSo 33 = .ok (.aload_n 0, 1) := by decide +kernel
theorem dX7_comesOutSo_34 : decode cX7_comesOutSo 34 = .ok (.getfield 56, 3) := by decide +kernel
theorem dX7_comesOutSo_37 : decode cX7_comesOutSo 37 = .ok (.getfield 387, 3) := by decide +kernel
theorem dX7_comesOutSo_40 : decode cX7_comesOutSo 40 = .ok (.iload_n 1, 1) := by decide +kernel
theorem dX7_comesOutSo_41 : decode cX7_comesOutSo 41 = .ok (.iload_n 3, 1) := by decide +kernel
theorem dX7_comesOutSo_42 : decode cX7_comesOutSo 42 = .ok (.iastore, 1) := by decide +kernel
theorem dX7_comesOutSo_43 : decode cX7_comesOutSo 43 = .ok (.aload_n 0, 1) := by decide +kernel
theorem dX7_comesOutSo_44 : decode cX7_comesOutSo 44 = .ok (.getfield 43, 3) := by decide +kernel
theorem dX7_comesOutSo_47 : decode cX7_comesOutSo 47 = .ok (.aload_n 0, 1) := by decide +kernel
theorem dX7_comesOutSo_48 : decode cX7_comesOutSo 48 = .ok (.getfield 56, 3) := by decide +kernel
theorem dX7_comesOutSo_51 : decode cX7_comesOutSo 51 = .ok (.getfield 155, 3) := by decide +kernel
theorem dX7_comesOutSo_54 : decode cX7_comesOutSo 54 = .ok (.invokevirtual 396, 3) := by decide +kernel
theorem dX7_comesOutSo_57 : decode cX7_comesOutSo 57 = .ok (.ireturn, 1) := by decide +kernel
theorem dX7_drawLots_0 : decode cX7_drawLots 0 = .ok (.aload_n 0, 1) := by decide +kernel
theorem dX7_drawLots_1 : decode cX7_drawLots 1 = .ok (.getfield 12, 3) := by decide +kernel
theorem dX7_drawLots_4 : decode cX7_drawLots 4 = .ok (.getfield 177, 3) := by decide +kernel
theorem dX7_drawLots_7 : decode cX7_drawLots 7 = .ok (.istore_n 3, 1) := by decide +kernel
theorem dX7_drawLots_8 : decode cX7_drawLots 8 = .ok (.aload_n 0, 1) := by decide +kernel
theorem dX7_drawLots_9 : decode cX7_drawLots 9 = .ok (.getfield 18, 3) := by decide +kernel
theorem dX7_drawLots_12 : decode cX7_drawLots 12 = .ok (.getfield 177, 3) := by decide +kernel
theorem dX7_drawLots_15 : decode cX7_drawLots 15 = .ok (.istore 4, 2) := by decide +kernel
theorem dX7_drawLots_17 : decode cX7_drawLots 17 = .ok (.iload_n 3, 1) := by decide +kernel
theorem dX7_drawLots_18 : decode cX7_drawLots 18 = .ok (.ifCond .eq 8, 3) := by decide +kernel
theorem dX7_drawLots_21 : decode cX7_drawLots 21 = .ok (.iload 4, 2) := by decide +kernel
theorem dX7_drawLots_23 : decode cX7_drawLots 23 = .ok (.ifCond .ne 4, 3) := by decide +kernel
theorem dX7_drawLots_26 : decode cX7_drawLots 26 = .ok (.return_, 1) := by decide +kernel
theorem dX7_drawLots_27 : decode cX7_drawLots 27 = .ok (.iload_n 1, 1) := by decide +kernel
theorem dX7_drawLots_28 : decode cX7_drawLots 28 = .ok (.istore 5, 2) := by decide +kernel
theorem dX7_drawLots_30 : decode cX7_drawLots 30 = .ok (.iconst 0, 1) := by decide +kernel
theorem dX7_drawLots_31 : decode cX7_drawLots 31 = .ok (.istore 6, 2) := by decide +kernel
theorem dX7_drawLots_33 : decode cX7_drawLots 33 = .ok (.iload 6, 2) := by decide +kernel
theorem dX7_drawLots_35 : decode cX7_drawLots 35 = .ok (.iload_n 2, 1) := by decide +kernel
theorem dX7_drawLots_36 : decode cX7_drawLots 36 = .ok (.if_icmp .ge 61, 3) := by decide +kernel
theorem dX7_drawLots_39 : decode cX7_drawLots 39 = .ok (.iload 5, 2) := by decide +kernel
theorem dX7_drawLots_41 : decode cX7_drawLots 41 = .ok (.invokestatic 400, 3) := by decide +kernel
theorem dX7_drawLots_44 : decode cX7_drawLots 44 = .ok (.istore 5, 2) := by decide +kernel
theorem dX7_drawLots_46 : decode cX7_drawLots 46 = .ok (.aload_n 0, 1) := by decide +kernel
theorem dX7_drawLots_47 : decode cX7_drawLots 47 = .ok (.getfield 56, 3) := by decide +kernel
theorem dX7_drawLots_50 : decode cX7_drawLots 50 = .ok (.iload 6, 2) := by decide +kernel
theorem dX7_drawLots_52 : decode cX7_drawLots 52 = .ok (.iload 5, 2) := by decide +kernel
theorem dX7_drawLots_54 : decode cX7_drawLots 54 = .ok (.bipush 16, 2) := by decide +kernel
theorem dX7_drawLots_56 : decode cX7_drawLots 56 = .ok (.iushr, 1) := by decide +kernel
theorem dX7_drawLots_57 : decode cX7_drawLots 57 = .ok (.iload_n 3, 1) := by decide +kernel
theorem dX7_drawLots_58 : decode cX7_drawLots 58 = .ok (.irem, 1) := by decide +kernel
theorem dX7_drawLots_59 : decode cX7_drawLots 59 = .ok (.invokevirtual 390, 3) := by decide +kernel
theorem dX7_drawLots_62 : decode cX7_drawLots 62 = .ok (.iload 5, 2) := by decide +kernel
theorem dX7_drawLots_64 : decode cX7_drawLots 64 = .ok (.invokestatic 400, 3) := by decide +kernel
theorem dX7_drawLots_67 : decode cX7_drawLots 67 = .ok (.istore 5, 2) := by decide +kernel
theorem dX7_drawLots_69 : decode cX7_drawLots 69 = .ok (.aload_n 0, 1) := by decide +kernel
theorem dX7_drawLots_70 : decode cX7_drawLots 70 = .ok (.getfield 56, 3) := by decide +kernel
theorem dX7_drawLots_73 : decode cX7_drawLots 73 = .ok (.iload 6, 2) := by decide +kernel
theorem dX7_drawLots_75 : decode cX7_drawLots 75 = .ok (.iload 5, 2) := by decide +kernel
theorem dX7_drawLots_77 : decode cX7_drawLots 77 = .ok (.bipush 16, 2) := by decide +kernel
theorem dX7_drawLots_79 : decode cX7_drawLots 79 = .ok (.iushr, 1) := by decide +kernel
theorem dX7_drawLots_80 : decode cX7_drawLots 80 = .ok (.iload 4, 2) := by decide +kernel
theorem dX7_drawLots_82 : decode cX7_drawLots 82 = .ok (.irem, 1) := by decide +kernel
theorem dX7_drawLots_83 : decode cX7_drawLots 83 = .ok (.bipush 12, 2) := by decide +kernel
theorem dX7_drawLots_85 : decode cX7_drawLots 85 = .ok (.iload 6, 2) := by decide +kernel
theorem dX7_drawLots_87 : decode cX7_drawLots 87 = .ok (.iadd, 1) := by decide +kernel
theorem dX7_drawLots_88 : decode cX7_drawLots 88 = .ok (.invokevirtual 403, 3) := by decide +kernel
theorem dX7_drawLots_91 : decode cX7_drawLots 91 = .ok (.iinc 6 1, 3) := by decide +kernel
theorem dX7_drawLots_94 : decode cX7_drawLots 94 = .ok (.goto (-61), 3) := by decide +kernel
theorem dX7_drawLots_97 : decode cX7_drawLots 97 = .ok (.return_, 1) := by decide +kernel
theorem dX7_nextSeed_0 : decode cX7_nextSeed 0 = .ok (.ldc_w 407, 3) := by decide +kernel
theorem dX7_nextSeed_3 : decode cX7_nextSeed 3 = .ok (.iload_n 0, 1) := by decide +kernel
theorem dX7_nextSeed_4 : decode cX7_nextSeed 4 = .ok (.imul, 1) := by decide +kernel
theorem dX7_nextSeed_5 : decode cX7_nextSeed 5 = .ok (.sipush 12345, 3) := by decide +kernel
theorem dX7_nextSeed_8 : decode cX7_nextSeed 8 = .ok (.iadd, 1) := by decide +kernel
theorem dX7_nextSeed_9 : decode cX7_nextSeed 9 = .ok (.ireturn, 1) := by decide +kernel
theorem dX8_init_0 : decode cX8_init 0 = .ok (.aload_n 0, 1) := by decide +kernel
theorem dX8_init_1 : decode cX8_init 1 = .ok (.invokespecial 1, 3) := by decide +kernel
theorem dX8_init_4 : decode cX8_init 4 = .ok (.aload_n 0, 1) := by decide +kernel
theorem dX8_init_5 : decode cX8_init 5 = .ok (.iconst 2, 1) := by decide +kernel
theorem dX8_init_6 : decode cX8_init 6 = .ok (.newarray .int, 2) := by decide +kernel
theorem dX8_init_8 : decode cX8_init 8 = .ok (.putfield 7, 3) := by decide +kernel
theorem dX8_init_11 : decode cX8_init 11 = .ok (.aload_n 0, 1) := by decide +kernel
theorem dX8_init_12 : decode cX8_init 12 = .ok (.bipush 94, 2) := by decide +kernel
theorem dX8_init_14 : decode cX8_init 14 = .ok (.newarray .int, 2) := by decide +kernel
theorem dX8_init_16 : decode cX8_init 16 = .ok (.putfield 13, 3) := by decide +kernel
theorem dX8_init_19 : decode cX8_init 19 = .ok (.aload_n 0, 1) := by decide +kernel
theorem dX8_init_20 : decode cX8_init 20 = .ok (.bipush 9, 2) := by decide +kernel
theorem dX8_init_22 : decode cX8_init 22 = .ok (.newarray .int, 2) := by decide +kernel
theorem dX8_init_24 : decode cX8_init 24 = .ok (.putfield 16, 3) := by decide +kernel
theorem dX8_init_27 : decode cX8_init 27 = .ok (.aload_n 0, 1) := by decide +kernel
theorem dX8_init_28 : decode cX8_init 28 = .ok (.bipush 9, 2) := by decide +kernel
theorem dX8_init_30 : decode cX8_init 30 = .ok (.newarray .int, 2) := by decide +kernel
theorem dX8_init_32 : decode cX8_init 32 = .ok (.putfield 19, 3) := by decide +kernel
theorem dX8_init_35 : decode cX8_init 35 = .ok (.aload_n 0, 1) := by decide +kernel
theorem dX8_init_36 : decode cX8_init 36 = .ok (.bipush 9, 2) := by decide +kernel
theorem dX8_init_38 : decode cX8_init 38 = .ok (.newarray .int, 2) := by decide +kernel
theorem dX8_init_40 : decode cX8_init 40 = .ok (.putfield 22, 3) := by decide +kernel
theorem dX8_init_43 : decode cX8_init 43 = .ok (.aload_n 0, 1) := by decide +kernel
theorem dX8_init_44 : decode cX8_init 44 = .ok (.bipush 9, 2) := by decide +kernel
theorem dX8_init_46 : decode cX8_init 46 = .ok (.newarray .int, 2) := by decide +kernel
theorem dX8_init_48 : decode cX8_init 48 = .ok (.putfield 25, 3) := by decide +kernel
theorem dX8_init_51 : decode cX8_init 51 = .ok (.aload_n 0, 1) := by decide +kernel
theorem dX8_init_52 : decode cX8_init 52 = .ok (.bipush 9, 2) := by decide +kernel
theorem dX8_init_54 : decode cX8_init 54 = .ok (.newarray .int, 2) := by decide +kernel
theorem dX8_init_56 : decode cX8_init 56 = .ok (.putfield 28, 3) := by decide +kernel
theorem dX8_init_59 : decode cX8_init 59 = .ok (.aload_n 0, 1) := by decide +kernel
theorem dX8_init_60 : decode cX8_init 60 = .ok (.bipush 52, 2) := by decide +kernel
theorem dX8_init_62 : decode cX8_init 62 = .ok (.newarray .int, 2) := by decide +kernel
theorem dX8_init_64 : decode cX8_init 64 = .ok (.putfield 31, 3) := by decide +kernel
theorem dX8_init_67 : decode cX8_init 67 = .ok (.aload_n 0, 1) := by decide +kernel
theorem dX8_init_68 : decode cX8_init 68 = .ok (.bipush 52, 2) := by decide +kernel
theorem dX8_init_70 : decode cX8_init 70 = .ok (.newarray .int, 2) := by decide +kernel
theorem dX8_init_72 : decode cX8_init 72 = .ok (.putfield 34, 3) := by decide +kernel
theorem dX8_init_75 : decode cX8_init 75 = .ok (.aload_n 0, 1) := by decide +kernel
theorem dX8_init_76 : decode cX8_init 76 = .ok (.bipush 52, 2) := by decide +kernel
theorem dX8_init_78 : decode cX8_init 78 = .ok (.newarray .int, 2) := by decide +kernel
theorem dX8_init_80 : decode cX8_init 80 = .ok (.putfield 37, 3) := by decide +kernel
theorem dX8_init_83 : decode cX8_init 83 = .ok (.aload_n 0, 1) := by decide +kernel
theorem dX8_init_84 : decode cX8_init 84 = .ok (.bipush 52, 2) := by decide +kernel
theorem dX8_init_86 : decode cX8_init 86 = .ok (.newarray .int, 2) := by decide +kernel
theorem dX8_init_88 : decode cX8_init 88 = .ok (.putfield 40, 3) := by decide +kernel
theorem dX8_init_91 : decode cX8_init 91 = .ok (.aload_n 0, 1) := by decide +kernel
theorem dX8_init_92 : decode cX8_init 92 = .ok (.bipush 8, 2) := by decide +kernel
theorem dX8_init_94 : decode cX8_init 94 = .ok (.newarray .int, 2) := by decide +kernel
theorem dX8_init_96 : decode cX8_init 96 = .ok (.putfield 43, 3) := by decide +kernel
theorem dX8_init_99 : decode cX8_init 99 = .ok (.aload_n 0, 1) := by decide +kernel
theorem dX8_init_100 : decode cX8_init 100 = .ok (.bipush 8, 2) := by decide +kernel
theorem dX8_init_102 : decode cX8_init 102 = .ok (.newarray .int, 2) := by decide +kernel
theorem dX8_init_104 : decode cX8_init 104 = .ok (.putfield 46, 3) := by decide +kernel
theorem dX8_init_107 : decode cX8_init 107 = .ok (.aload_n 0, 1) := by decide +kernel
theorem dX8_init_108 : decode cX8_init 108 = .ok (.bipush 8, 2) := by decide +kernel
theorem dX8_init_110 : decode cX8_init 110 = .ok (.newarray .int, 2) := by decide +kernel
theorem dX8_init_112 : decode cX8_init 112 = .ok (.putfield 49, 3) := by decide +kernel
theorem dX8_init_115 : decode cX8_init 115 = .ok (.aload_n 0, 1) := by decide +kernel
theorem dX8_init_116 : decode cX8_init 116 = .ok (.sipush 2304, 3) := by decide +kernel
theorem dX8_init_119 : decode cX8_init 119 = .ok (.newarray .int, 2) := by decide +kernel
theorem dX8_init_121 : decode cX8_init 121 = .ok (.putfield 52, 3) := by decide +kernel
theorem dX8_init_124 : decode cX8_init 124 = .ok (.aload_n 0, 1) := by decide +kernel
theorem dX8_init_125 : decode cX8_init 125 = .ok (.bipush 8, 2) := by decide +kernel
theorem dX8_init_127 : decode cX8_init 127 = .ok (.newarray .int, 2) := by decide +kernel
theorem dX8_init_129 : decode cX8_init 129 = .ok (.putfield 55, 3) := by decide +kernel
theorem dX8_init_132 : decode cX8_init 132 = .ok (.aload_n 0, 1) := by decide +kernel
theorem dX8_init_133 : decode cX8_init 133 = .ok (.sipush 256, 3) := by decide +kernel
theorem dX8_init_136 : decode cX8_init 136 = .ok (.newarray .int, 2) := by decide +kernel
theorem dX8_init_138 : decode cX8_init 138 = .ok (.putfield 58, 3) := by decide +kernel
theorem dX8_init_141 : decode cX8_init 141 = .ok (.aload_n 0, 1) := by decide +kernel
theorem dX8_init_142 : decode cX8_init 142 = .ok (.bipush 8, 2) := by decide +kernel
theorem dX8_init_144 : decode cX8_init 144 = .ok (.newarray .int, 2) := by decide +kernel
theorem dX8_init_146 : decode cX8_init 146 = .ok (.putfield 61, 3) := by decide +kernel
theorem dX8_init_149 : decode cX8_init 149 = .ok (.aload_n 0, 1) := by decide +kernel
theorem dX8_init_150 : decode cX8_init 150 = .ok (.bipush 8, 2) := by decide +kernel
theorem dX8_init_152 : decode cX8_init 152 = .ok (.newarray .int, 2) := by decide +kernel
theorem dX8_init_154 : decode cX8_init 154 = .ok (.putfield 64, 3) := by decide +kernel
theorem dX8_init_157 : decode cX8_init 157 = .ok (.aload_n 0, 1) := by decide +kernel
theorem dX8_init_158 : decode cX8_init 158 = .ok (.bipush 8, 2) := by decide +kernel
theorem dX8_init_160 : decode cX8_init 160 = .ok (.newarray .int, 2) := by decide +kernel
theorem dX8_init_162 : decode cX8_init 162 = .ok (.putfield 67, 3) := by decide +kernel
theorem dX8_init_165 : decode cX8_init 165 = .ok (.aload_n 0, 1) := by decide +kernel
theorem dX8_init_166 : decode cX8_init 166 = .ok (.bipush 8, 2) := by decide +kernel
theorem dX8_init_168 : decode cX8_init 168 = .ok (.newarray .int, 2) := by decide +kernel
theorem dX8_init_170 : decode cX8_init 170 = .ok (.putfield 70, 3) := by decide +kernel
theorem dX8_init_173 : decode cX8_init 173 = .ok (.aload_n 0, 1) := by decide +kernel
theorem dX8_init_174 : decode cX8_init 174 = .ok (.iconst 4, 1) := by decide +kernel
theorem dX8_init_175 : decode cX8_init 175 = .ok (.newarray .boolean, 2) := by decide +kernel
theorem dX8_init_177 : decode cX8_init 177 = .ok (.putfield 73, 3) := by decide +kernel
theorem dX8_init_180 : decode cX8_init 180 = .ok (.aload_n 0, 1) := by decide +kernel
theorem dX8_init_181 : decode cX8_init 181 = .ok (.iconst 4, 1) := by decide +kernel
theorem dX8_init_182 : decode cX8_init 182 = .ok (.newarray .int, 2) := by decide +kernel
theorem dX8_init_184 : decode cX8_init 184 = .ok (.putfield 77, 3) := by decide +kernel
theorem dX8_init_187 : decode cX8_init 187 = .ok (.aload_n 0, 1) := by decide +kernel
theorem dX8_init_188 : decode cX8_init 188 = .ok (.iconst 4, 1) := by decide +kernel
theorem dX8_init_189 : decode cX8_init 189 = .ok (.newarray .int, 2) := by decide +kernel
theorem dX8_init_191 : decode cX8_init 191 = .ok (.putfield 80, 3) := by decide +kernel
theorem dX8_init_194 : decode cX8_init 194 = .ok (.aload_n 0, 1) := by decide +kernel
theorem dX8_init_195 : decode cX8_init 195 = .ok (.sipush 192, 3) := by decide +kernel
theorem dX8_init_198 : decode cX8_init 198 = .ok (.newarray .int, 2) := by decide +kernel
theorem dX8_init_200 : decode cX8_init 200 = .ok (.putfield 83, 3) := by decide +kernel
theorem dX8_init_203 : decode cX8_init 203 = .ok (.aload_n 0, 1) := by decide +kernel
theorem dX8_init_204 : decode cX8_init 204 = .ok (.bipush 48, 2) := by decide +kernel
theorem dX8_init_206 : decode cX8_init 206 = .ok (.newarray .int, 2) := by decide +kernel
theorem dX8_init_208 : decode cX8_init 208 = .ok (.putfield 86, 3) := by decide +kernel
theorem dX8_init_211 : decode cX8_init 211 = .ok (.aload_n 0, 1) := by decide +kernel
theorem dX8_init_212 : decode cX8_init 212 = .ok (.iconst 2, 1) := by decide +kernel
theorem dX8_init_213 : decode cX8_init 213 = .ok (.putfield 89, 3) := by decide +kernel
theorem dX8_init_216 : decode cX8_init 216 = .ok (.aload_n 0, 1) := by decide +kernel
theorem dX8_init_217 : decode cX8_init 217 = .ok (.iconst 3, 1) := by decide +kernel
theorem dX8_init_218 : decode cX8_init 218 = .ok (.putfield 93, 3) := by decide +kernel
theorem dX8_init_221 : decode cX8_init 221 = .ok (.return_, 1) := by decide +kernel
theorem dX8_in_0 : decode cX8_in 0 = .ok (.iload_n 0, 1) := by decide +kernel
theorem dX8_in_1 : decode cX8_in 1 = .ok (.iload_n 1, 1) := by decide +kernel
theorem dX8_in_2 : decode cX8_in 2 = .ok (.if_icmp .lt 12, 3) := by decide +kernel
theorem dX8_in_5 : decode cX8_in 5 = .ok (.iload_n 0, 1) := by decide +kernel
theorem dX8_in_6 : decode cX8_in 6 = .ok (.iload_n 2, 1) := by decide +kernel
theorem dX8_in_7 : decode cX8_in 7 = .ok (.if_icmp .gt 7, 3) := by decide +kernel
theorem dX8_in_10 : decode cX8_in 10 = .ok (.iconst 1, 1) := by decide +kernel
theorem dX8_in_11 : decode cX8_in 11 = .ok (.goto 4, 3) := by decide +kernel
theorem dX8_in_14 : decode cX8_in 14 = .ok (.iconst 0, 1) := by decide +kernel
theorem dX8_in_15 : decode cX8_in 15 = .ok (.ireturn, 1) := by decide +kernel
theorem dX8_isIn_0 : decode cX8_isIn 0 = .ok (.iload_n 0, 1) := by decide +kernel
theorem dX8_isIn_1 : decode cX8_isIn 1 = .ok (.iload_n 1, 1) := by decide +kernel
theorem dX8_isIn_2 : decode cX8_isIn 2 = .ok (.ishr, 1) := by decide +kernel
theorem dX8_isIn_3 : decode cX8_isIn 3 = .ok (.iconst 1, 1) := by decide +kernel
theorem dX8_isIn_4 : decode cX8_isIn 4 = .ok (.iand, 1) := by decide +kernel
theorem dX8_isIn_5 : decode cX8_isIn 5 = .ok (.iconst 1, 1) := by decide +kernel
theorem dX8_isIn_6 : decode cX8_isIn 6 = .ok (.if_icmp .ne 7, 3) := by decide +kernel
theorem dX8_isIn_9 : decode cX8_isIn 9 = .ok (.iconst 1, 1) := by decide +kernel
theorem dX8_isIn_10 : decode cX8_isIn 10 = .ok (.goto 4, 3) := by decide +kernel
theorem dX8_isIn_13 : decode cX8_isIn 13 = .ok (.iconst 0, 1) := by decide +kernel
theorem dX8_isIn_14 : decode cX8_isIn 14 = .ok (.ireturn, 1) := by decide +kernel
theorem dX8_ones_0 : decode cX8_ones 0 = .ok (.iconst 0, 1) := by decide +kernel
theorem dX8_ones_1 : decode cX8_ones 1 = .ok (.istore_n 1, 1) := by decide +kernel
theorem dX8_ones_2 : decode cX8_ones 2 = .ok (.iconst 0, 1) := by decide +kernel
theorem dX8_ones_3 : decode cX8_ones 3 = .ok (.istore_n 2, 1) := by decide +kernel
theorem dX8_ones_4 : decode cX8_ones 4 = .ok (.iload_n 2, 1) := by decide +kernel
theorem dX8_ones_5 : decode cX8_ones 5 = .ok (.bipush 8, 2) := by decide +kernel
theorem dX8_ones_7 : decode cX8_ones 7 = .ok (.if_icmp .ge 17, 3) := by decide +kernel
theorem dX8_ones_10 : decode cX8_ones 10 = .ok (.iload_n 1, 1) := by decide +kernel
theorem dX8_ones_11 : decode cX8_ones 11 = .ok (.iload_n 0, 1) := by decide +kernel
theorem dX8_ones_12 : decode cX8_ones 12 = .ok (.iload_n 2, 1) := by decide +kernel
theorem dX8_ones_13 : decode cX8_ones 13 = .ok (.ishr, 1) := by decide +kernel
theorem dX8_ones_14 : decode cX8_ones 14 = .ok (.iconst 1, 1) := by decide +kernel
theorem dX8_ones_15 : decode cX8_ones 15 = .ok (.iand, 1) := by decide +kernel
theorem dX8_ones_16 : decode cX8_ones 16 = .ok (.iadd, 1) := by decide +kernel
theorem dX8_ones_17 : decode cX8_ones 17 = .ok (.istore_n 1, 1) := by decide +kernel
theorem dX8_ones_18 : decode cX8_ones 18 = .ok (.iinc 2 1, 3) := by decide +kernel
theorem dX8_ones_21 : decode cX8_ones 21 = .ok (.goto (-17), 3) := by decide +kernel
theorem dX8_ones_24 : decode cX8_ones 24 = .ok (.iload_n 1, 1) := by decide +kernel
theorem dX8_ones_25 : decode cX8_ones 25 = .ok (.ireturn, 1) := by decide +kernel
theorem dX8_no_0 : decode cX8_no 0 = .ok (.ldc2_w 96, 3) := by decide +kernel
theorem dX8_no_3 : decode cX8_no 3 = .ok (.iload_n 0, 1) := by decide +kernel
theorem dX8_no_4 : decode cX8_no 4 = .ok (.i2l, 1) := by decide +kernel
theorem dX8_no_5 : decode cX8_no 5 = .ok (.lsub, 1) := by decide +kernel
theorem dX8_no_6 : decode cX8_no 6 = .ok (.lreturn, 1) := by decide +kernel
theorem dX8_lowest_0 : decode cX8_lowest 0 = .ok (.lload_n 0, 1) := by decide +kernel
theorem dX8_lowest_1 : decode cX8_lowest 1 = .ok (.lstore 5, 2) := by decide +kernel
theorem dX8_lowest_3 : decode cX8_lowest 3 = .ok (.lload_n 2, 1) := by decide +kernel
theorem dX8_lowest_4 : decode cX8_lowest 4 = .ok (.lstore 7, 2) := by decide +kernel
theorem dX8_lowest_6 : decode cX8_lowest 6 = .ok (.lload 7, 2) := by decide +kernel
theorem dX8_lowest_8 : decode cX8_lowest 8 = .ok (.lconst 0, 1) := by decide +kernel
theorem dX8_lowest_9 : decode cX8_lowest 9 = .ok (.lcmp, 1) := by decide +kernel
theorem dX8_lowest_10 : decode cX8_lowest 10 = .ok (.ifCond .eq 21, 3) := by decide +kernel
theorem dX8_lowest_13 : decode cX8_lowest 13 = .ok (.lload 5, 2) := by decide +kernel
theorem dX8_lowest_15 : decode cX8_lowest 15 = .ok (.lload 7, 2) := by decide +kernel
theorem dX8_lowest_17 : decode cX8_lowest 17 = .ok (.lrem, 1) := by decide +kernel
theorem dX8_lowest_18 : decode cX8_lowest 18 = .ok (.lstore 9, 2) := by decide +kernel
theorem dX8_lowest_20 : decode cX8_lowest 20 = .ok (.lload 7, 2) := by decide +kernel
theorem dX8_lowest_22 : decode cX8_lowest 22 = .ok (.lstore 5, 2) := by decide +kernel
theorem dX8_lowest_24 : decode cX8_lowest 24 = .ok (.lload 9, 2) := by decide +kernel
theorem dX8_lowest_26 : decode cX8_lowest 26 = .ok (.lstore 7, 2) := by decide +kernel
theorem dX8_lowest_28 : decode cX8_lowest 28 = .ok (.goto (-22), 3) := by decide +kernel
theorem dX8_lowest_31 : decode cX8_lowest 31 = .ok (.iload 4, 2) := by decide +kernel
theorem dX8_lowest_33 : decode cX8_lowest 33 = .ok (.ifCond .ne 10, 3) := by decide +kernel
theorem dX8_lowest_36 : decode cX8_lowest 36 = .ok (.lload_n 0, 1) := by decide +kernel
theorem dX8_lowest_37 : decode cX8_lowest 37 = .ok (.lload 5, 2) := by decide +kernel
theorem dX8_lowest_39 : decode cX8_lowest 39 = .ok (.ldiv, 1) := by decide +kernel
theorem dX8_lowest_40 : decode cX8_lowest 40 = .ok (.goto 7, 3) := by decide +kernel
theorem dX8_lowest_43 : decode cX8_lowest 43 = .ok (.lload_n 2, 1) := by decide +kernel
theorem dX8_lowest_44 : decode cX8_lowest 44 = .ok (.lload 5, 2) := by decide +kernel
theorem dX8_lowest_46 : decode cX8_lowest 46 = .ok (.ldiv, 1) := by decide +kernel
theorem dX8_lowest_47 : decode cX8_lowest 47 = .ok (.lreturn, 1) := by decide +kernel
theorem dX8_isText_0 : decode cX8_isText 0 = .ok (.iload_n 0, 1) := by decide +kernel
theorem dX8_isText_1 : decode cX8_isText 1 = .ok (.iconst 0, 1) := by decide +kernel
theorem dX8_isText_2 : decode cX8_isText 2 = .ok (.iconst 1, 1) := by decide +kernel
theorem dX8_isText_3 : decode cX8_isText 3 = .ok (.invokestatic 98, 3) := by decide +kernel
theorem dX8_isText_6 : decode cX8_isText 6 = .ok (.ireturn, 1) := by decide +kernel
theorem dX8_isEight_0 : decode cX8_isEight 0 = .ok (.iload_n 0, 1) := by decide +kernel
theorem dX8_isEight_1 : decode cX8_isEight 1 = .ok (.iconst 0, 1) := by decide +kernel
theorem dX8_isEight_2 : decode cX8_isEight 2 = .ok (.bipush 7, 2) := by decide +kernel
theorem dX8_isEight_4 : decode cX8_isEight 4 = .ok (.invokestatic 98, 3) := by decide +kernel
theorem dX8_isEight_7 : decode cX8_isEight 7 = .ok (.ireturn, 1) := by decide +kernel
theorem dX8_isWeek_0 : decode cX8_isWeek 0 = .ok (.iload_n 0, 1) := by decide +kernel
theorem dX8_isWeek_1 : decode cX8_isWeek 1 = .ok (.iconst 0, 1) := by decide +kernel
theorem dX8_isWeek_2 : decode cX8_isWeek 2 = .ok (.bipush 39, 2) := by decide +kernel
theorem dX8_isWeek_4 : decode cX8_isWeek 4 = .ok (.invokestatic 98, 3) := by decide +kernel
theorem dX8_isWeek_7 : decode cX8_isWeek 7 = .ok (.ireturn, 1) := by decide +kernel
theorem dX8_type_0 : decode cX8_type 0 = .ok (.iload_n 1, 1) := by decide +kernel
theorem dX8_type_1 : decode cX8_type 1 = .ok (.invokestatic 102, 3) := by decide +kernel
theorem dX8_type_4 : decode cX8_type 4 = .ok (.ifCond .eq 14, 3) := by decide +kernel
theorem dX8_type_7 : decode cX8_type 7 = .ok (.iload_n 2, 1) := by decide +kernel
theorem dX8_type_8 : decode cX8_type 8 = .ok (.iconst 0, 1) := by decide +kernel
theorem dX8_type_9 : decode cX8_type 9 = .ok (.sipush 255, 3) := by decide +kernel
theorem dX8_type_12 : decode cX8_type 12 = .ok (.invokestatic 98, 3) := by decide +kernel
theorem dX8_type_15 : decode cX8_type 15 = .ok (.ifCond .ne 6, 3) := by decide +kernel
theorem dX8_type_18 : decode cX8_type 18 = .ok (.bipush (-2), 2) := by decide +kernel
theorem dX8_type_20 : decode cX8_type 20 = .ok (.ireturn, 1) := by decide +kernel
theorem dX8_type_21 : decode cX8_type 21 = .ok (.aload_n 0, 1) := by decide +kernel
theorem dX8_type_22 : decode cX8_type 22 = .ok (.getfield 7, 3) := by decide +kernel
theorem dX8_type_25 : decode cX8_type 25 = .ok (.iload_n 1, 1) := by decide +kernel
theorem dX8_type_26 : decode cX8_type 26 = .ok (.iaload, 1) := by decide +kernel
theorem dX8_type_27 : decode cX8_type 27 = .ok (.bipush 47, 2) := by decide +kernel
theorem dX8_type_29 : decode cX8_type 29 = .ok (.if_icmp .ne 6, 3) := by decide +kernel
theorem dX8_type_32 : decode cX8_type 32 = .ok (.bipush (-4), 2) := by decide +kernel
theorem dX8_type_34 : decode cX8_type 34 = .ok (.ireturn, 1) := by decide +kernel
theorem dX8_type_35 : decode cX8_type 35 = .ok (.aload_n 0, 1) := by decide +kernel
theorem dX8_type_36 : decode cX8_type 36 = .ok (.getfield 13, 3) := by decide +kernel
theorem dX8_type_39 : decode cX8_type 39 = .ok (.bipush 47, 2) := by decide +kernel
theorem dX8_type_41 : decode cX8_type 41 = .ok (.iload_n 1, 1) := by decide +kernel
theorem dX8_type_42 : decode cX8_type 42 = .ok (.imul, 1) := by decide +kernel
theorem dX8_type_43 : decode cX8_type 43 = .ok (.aload_n 0, 1) := by decide +kernel
theorem dX8_type_44 : decode cX8_type 44 = .ok (.getfield 7, 3) := by decide +kernel
theorem dX8_type_47 : decode cX8_type 47 = .ok (.iload_n 1, 1) := by decide +kernel
theorem dX8_type_48 : decode cX8_type 48 = .ok (.iaload, 1) := by decide +kernel
theorem dX8_type_49 : decode cX8_type 49 = .ok (.iadd, 1) := by decide +kernel
theorem dX8_type_50 : decode cX8_type 50 = .ok (.iload_n 2, 1) := by decide +kernel
theorem dX8_type_51 : decode cX8_type 51 = .ok (.iastore, 1) := by decide +kernel
theorem dX8_type_52 : decode cX8_type 52 = .ok (.aload_n 0, 1) := by decide +kernel
theorem dX8_type_53 : decode cX8_type 53 = .ok (.getfield 7, 3) := by decide +kernel
theorem dX8_type_56 : decode cX8_type 56 = .ok (.iload_n 1, 1) := by decide +kernel
theorem dX8_type_57 : decode cX8_type 57 = .ok (.dup2, 1) := by decide +kernel
theorem dX8_type_58 : decode cX8_type 58 = .ok (.iaload, 1) := by decide +kernel
theorem dX8_type_59 : decode cX8_type 59 = .ok (.iconst 1, 1) := by decide +kernel
theorem dX8_type_60 : decode cX8_type 60 = .ok (.iadd, 1) := by decide +kernel
theorem dX8_type_61 : decode cX8_type 61 = .ok (.iastore, 1) := by decide +kernel
theorem dX8_type_62 : decode cX8_type 62 = .ok (.aload_n 0, 1) := by decide +kernel
theorem dX8_type_63 : decode cX8_type 63 = .ok (.getfield 7, 3) := by decide +kernel
theorem dX8_type_66 : decode cX8_type 66 = .ok (.iload_n 1, 1) := by decide +kernel
theorem dX8_type_67 : decode cX8_type 67 = .ok (.iaload, 1) := by decide +kernel
theorem dX8_type_68 : decode cX8_type 68 = .ok (.ireturn, 1) := by decide +kernel
theorem dX8_wipe_0 : decode cX8_wipe 0 = .ok (.iload_n 1, 1) := by decide +kernel
theorem dX8_wipe_1 : decode cX8_wipe 1 = .ok (.invokestatic 102, 3) := by decide +kernel
theorem dX8_wipe_4 : decode cX8_wipe 4 = .ok (.ifCond .ne 6, 3) := by decide +kernel
theorem dX8_wipe_7 : decode cX8_wipe 7 = .ok (.bipush (-2), 2) := by decide +kernel
theorem dX8_wipe_9 : decode cX8_wipe 9 = .ok (.ireturn, 1) := by decide +kernel
theorem dX8_wipe_10 : decode cX8_wipe 10 = .ok (.aload_n 0, 1) := by decide +kernel
theorem dX8_wipe_11 : decode cX8_wipe 11 = .ok (.getfield 7, 3) := by decide +kernel
theorem dX8_wipe_14 : decode cX8_wipe 14 = .ok (.iload_n 1, 1) := by decide +kernel
theorem dX8_wipe_15 : decode cX8_wipe 15 = .ok (.iaload, 1) := by decide +kernel
theorem dX8_wipe_16 : decode cX8_wipe 16 = .ok (.istore_n 2, 1) := by decide +kernel
theorem dX8_wipe_17 : decode cX8_wipe 17 = .ok (.aload_n 0, 1) := by decide +kernel
theorem dX8_wipe_18 : decode cX8_wipe 18 = .ok (.getfield 7, 3) := by decide +kernel
theorem dX8_wipe_21 : decode cX8_wipe 21 = .ok (.iload_n 1, 1) := by decide +kernel
theorem dX8_wipe_22 : decode cX8_wipe 22 = .ok (.iconst 0, 1) := by decide +kernel
theorem dX8_wipe_23 : decode cX8_wipe 23 = .ok (.iastore, 1) := by decide +kernel
theorem dX8_wipe_24 : decode cX8_wipe 24 = .ok (.iload_n 2, 1) := by decide +kernel
theorem dX8_wipe_25 : decode cX8_wipe 25 = .ok (.ireturn, 1) := by decide +kernel
theorem dX8_undo_0 : decode cX8_undo 0 = .ok (.iload_n 1, 1) := by decide +kernel
theorem dX8_undo_1 : decode cX8_undo 1 = .ok (.invokestatic 102, 3) := by decide +kernel
theorem dX8_undo_4 : decode cX8_undo 4 = .ok (.ifCond .ne 6, 3) := by decide +kernel
theorem dX8_undo_7 : decode cX8_undo 7 = .ok (.bipush (-2), 2) := by decide +kernel
theorem dX8_undo_9 : decode cX8_undo 9 = .ok (.ireturn, 1) := by decide +kernel
theorem dX8_undo_10 : decode cX8_undo 10 = .ok (.aload_n 0, 1) := by decide +kernel
theorem dX8_undo_11 : decode cX8_undo 11 = .ok (.getfield 7, 3) := by decide +kernel
theorem dX8_undo_14 : decode cX8_undo 14 = .ok (.iload_n 1, 1) := by decide +kernel
theorem dX8_undo_15 : decode cX8_undo 15 = .ok (.iaload, 1) := by decide +kernel
theorem dX8_undo_16 : decode cX8_undo 16 = .ok (.ifCond .ne 6, 3) := by decide +kernel
theorem dX8_undo_19 : decode cX8_undo 19 = .ok (.bipush (-3), 2) := by decide +kernel
theorem dX8_undo_21 : decode cX8_undo 21 = .ok (.ireturn, 1) := by decide +kernel
theorem dX8_undo_22 : decode cX8_undo 22 = .ok (.aload_n 0, 1) := by decide +kernel
theorem dX8_undo_23 : decode cX8_undo 23 = .ok (.getfield 7, 3) := by decide +kernel
theorem dX8_undo_26 : decode cX8_undo 26 = .ok (.iload_n 1, 1) := by decide +kernel
theorem dX8_undo_27 : decode cX8_undo 27 = .ok (.dup2, 1) := by decide +kernel
theorem dX8_undo_28 : decode cX8_undo 28 = .ok (.iaload, 1) := by decide +kernel
theorem dX8_undo_29 : decode cX8_undo 29 = .ok (.iconst 1, 1) := by decide +kernel
theorem dX8_undo_30 : decode cX8_undo 30 = .ok (.isub, 1) := by decide +kernel
theorem dX8_undo_31 : decode cX8_undo 31 = .ok (.iastore, 1) := by decide +kernel
theorem dX8_undo_32 : decode cX8_undo 32 = .ok (.aload_n 0, 1) := by decide +kernel
theorem dX8_undo_33 : decode cX8_undo 33 = .ok (.getfield 7, 3) := by decide +kernel
theorem dX8_undo_36 : decode cX8_undo 36 = .ok (.iload_n 1, 1) := by decide +kernel
theorem dX8_undo_37 : decode cX8_undo 37 = .ok (.iaload, 1) := by decide +kernel
theorem dX8_undo_38 : decode cX8_undo 38 = .ok (.ireturn, 1) := by decide +kernel
theorem dX8_readsOne_0 : decode cX8_readsOne 0 = .ok (.iconst 0, 1) := by decide +kernel
theorem dX8_readsOne_1 : decode cX8_readsOne 1 = .ok (.istore 4, 2) := by decide +kernel
theorem dX8_readsOne_3 : decode cX8_readsOne 3 = .ok (.iconst 0, 1) := by decide +kernel
theorem dX8_readsOne_4 : decode cX8_readsOne 4 = .ok (.istore 5, 2) := by decide +kernel
theorem dX8_readsOne_6 : decode cX8_readsOne 6 = .ok (.iconst 0, 1) := by decide +kernel
theorem dX8_readsOne_7 : decode cX8_readsOne 7 = .ok (.istore 6, 2) := by decide +kernel
theorem dX8_readsOne_9 : decode cX8_readsOne 9 = .ok (.iload 6, 2) := by decide +kernel
theorem dX8_readsOne_11 : decode cX8_readsOne 11 = .ok (.iconst 4, 1) := by decide +kernel
theorem dX8_readsOne_12 : decode cX8_readsOne 12 = .ok (.if_icmp .ge 110, 3) := by decide +kernel
theorem dX8_readsOne_15 : decode cX8_readsOne 15 = .ok (.iload_n 3, 1) := by decide +kernel
theorem dX8_readsOne_16 : decode cX8_readsOne 16 = .ok (.iload 6, 2) := by decide +kernel
theorem dX8_readsOne_18 : decode cX8_readsOne 18 = .ok (.iadd, 1) := by decide +kernel
theorem dX8_readsOne_19 : decode cX8_readsOne 19 = .ok (.aload_n 0, 1) := by decide +kernel
theorem dX8_readsOne_20 : decode cX8_readsOne 20 = .ok (.getfield 7, 3) := by decide +kernel
theorem dX8_readsOne_23 : decode cX8_readsOne 23 = .ok (.iload_n 1, 1) := by decide +kernel
theorem dX8_readsOne_24 : decode cX8_readsOne 24 = .ok (.iaload, 1) := by decide +kernel
theorem dX8_readsOne_25 : decode cX8_readsOne 25 = .ok (.if_icmp .ge 20, 3) := by decide +kernel
theorem dX8_readsOne_28 : decode cX8_readsOne 28 = .ok (.aload_n 0, 1) := by decide +kernel
theorem dX8_readsOne_29 : decode cX8_readsOne 29 = .ok (.getfield 13, 3) := by decide +kernel
theorem dX8_readsOne_32 : decode cX8_readsOne 32 = .ok (.bipush 47, 2) := by decide +kernel
theorem dX8_readsOne_34 : decode cX8_readsOne 34 = .ok (.iload_n 1, 1) := by decide +kernel
theorem dX8_readsOne_35 : decode cX8_readsOne 35 = .ok (.imul, 1) := by decide +kernel
theorem dX8_readsOne_36 : decode cX8_readsOne 36 = .ok (.iload_n 3, 1) := by decide +kernel
theorem dX8_readsOne_37 : decode cX8_readsOne 37 = .ok (.iadd, 1) := by decide +kernel
theorem dX8_readsOne_38 : decode cX8_readsOne 38 = .ok (.iload 6, 2) := by decide +kernel
theorem dX8_readsOne_40 : decode cX8_readsOne 40 = .ok (.iadd, 1) := by decide +kernel
theorem dX8_readsOne_41 : decode cX8_readsOne 41 = .ok (.iaload, 1) := by decide +kernel
theorem dX8_readsOne_42 : decode cX8_readsOne 42 = .ok (.goto 4, 3) := by decide +kernel
theorem dX8_readsOne_45 : decode cX8_readsOne 45 = .ok (.iconst (-1), 1) := by decide +kernel
theorem dX8_readsOne_46 : decode cX8_readsOne 46 = .ok (.istore 7, 2) := by decide +kernel
theorem dX8_readsOne_48 : decode cX8_readsOne 48 = .ok (.iload 7, 2) := by decide +kernel
theorem dX8_readsOne_50 : decode cX8_readsOne 50 = .ok (.bipush 108, 2) := by decide +kernel
theorem dX8_readsOne_52 : decode cX8_readsOne 52 = .ok (.if_icmp .eq 24, 3) := by decide +kernel
theorem dX8_readsOne_55 : decode cX8_readsOne 55 = .ok (.iload 7, 2) := by decide +kernel
theorem dX8_readsOne_57 : decode cX8_readsOne 57 = .ok (.bipush 104, 2) := by decide +kernel
theorem dX8_readsOne_59 : decode cX8_readsOne 59 = .ok (.if_icmp .eq 17, 3) := by decide +kernel
theorem dX8_readsOne_62 : decode cX8_readsOne 62 = .ok (.iload 7, 2) := by decide +kernel
theorem dX8_readsOne_64 : decode cX8_readsOne 64 = .ok (.bipush 63, 2) := by decide +kernel
theorem dX8_readsOne_66 : decode cX8_readsOne 66 = .ok (.if_icmp .ne 7, 3) := by decide +kernel
theorem dX8_readsOne_69 : decode cX8_readsOne 69 = .ok (.iload_n 1, 1) := by decide +kernel
theorem dX8_readsOne_70 : decode cX8_readsOne 70 = .ok (.ifCond .ne 6, 3) := by decide +kernel
theorem dX8_readsOne_73 : decode cX8_readsOne 73 = .ok (.iload 6, 2) := by decide +kernel
theorem dX8_readsOne_75 : decode cX8_readsOne 75 = .ok (.ireturn, 1) := by decide +kernel
theorem dX8_readsOne_76 : decode cX8_readsOne 76 = .ok (.iload 4, 2) := by decide +kernel
theorem dX8_readsOne_78 : decode cX8_readsOne 78 = .ok (.iload 7, 2) := by decide +kernel
theorem dX8_readsOne_80 : decode cX8_readsOne 80 = .ok (.bipush 63, 2) := by decide +kernel
theorem dX8_readsOne_82 : decode cX8_readsOne 82 = .ok (.if_icmp .ne 7, 3) := by decide +kernel
theorem dX8_readsOne_85 : decode cX8_readsOne 85 = .ok (.iconst 0, 1) := by decide +kernel
theorem dX8_readsOne_86 : decode cX8_readsOne 86 = .ok (.goto 7, 3) := by decide +kernel
theorem dX8_readsOne_89 : decode cX8_readsOne 89 = .ok (.iconst 1, 1) := by decide +kernel
theorem dX8_readsOne_90 : decode cX8_readsOne 90 = .ok (.iload 6, 2) := by decide +kernel
theorem dX8_readsOne_92 : decode cX8_readsOne 92 = .ok (.ishl, 1) := by decide +kernel
theorem dX8_readsOne_93 : decode cX8_readsOne 93 = .ok (.ior, 1) := by decide +kernel
theorem dX8_readsOne_94 : decode cX8_readsOne 94 = .ok (.istore 4, 2) := by decide +kernel
theorem dX8_readsOne_96 : decode cX8_readsOne 96 = .ok (.iload 5, 2) := by decide +kernel
theorem dX8_readsOne_98 : decode cX8_readsOne 98 = .ok (.iload 7, 2) := by decide +kernel
theorem dX8_readsOne_100 : decode cX8_readsOne 100 = .ok (.bipush 104, 2) := by decide +kernel
theorem dX8_readsOne_102 : decode cX8_readsOne 102 = .ok (.if_icmp .ne 10, 3) := by decide +kernel
theorem dX8_readsOne_105 : decode cX8_readsOne 105 = .ok (.iconst 1, 1) := by decide +kernel
theorem dX8_readsOne_106 : decode cX8_readsOne 106 = .ok (.iload 6, 2) := by decide +kernel
theorem dX8_readsOne_108 : decode cX8_readsOne 108 = .ok (.ishl, 1) := by decide +kernel
theorem dX8_readsOne_109 : decode cX8_readsOne 109 = .ok (.goto 4, 3) := by decide +kernel
theorem dX8_readsOne_112 : decode cX8_readsOne 112 = .ok (.iconst 0, 1) := by decide +kernel
theorem dX8_readsOne_113 : decode cX8_readsOne 113 = .ok (.ior, 1) := by decide +kernel
theorem dX8_readsOne_114 : decode cX8_readsOne 114 = .ok (.istore 5, 2) := by decide +kernel
theorem dX8_readsOne_116 : decode cX8_readsOne 116 = .ok (.iinc 6 1, 3) := by decide +kernel
theorem dX8_readsOne_119 : decode cX8_readsOne 119 = .ok (.goto (-110), 3) := by decide +kernel
theorem dX8_readsOne_122 : decode cX8_readsOne 122 = .ok (.iload_n 3, 1) := by decide +kernel
theorem dX8_readsOne_123 : decode cX8_readsOne 123 = .ok (.iconst 4, 1) := by decide +kernel
theorem dX8_readsOne_124 : decode cX8_readsOne 124 = .ok (.iadd, 1) := by decide +kernel
theorem dX8_readsOne_125 : decode cX8_readsOne 125 = .ok (.aload_n 0, 1) := by decide +kernel
theorem dX8_readsOne_126 : decode cX8_readsOne 126 = .ok (.getfield 7, 3) := by decide +kernel
theorem dX8_readsOne_129 : decode cX8_readsOne 129 = .ok (.iload_n 1, 1) := by decide +kernel
theorem dX8_readsOne_130 : decode cX8_readsOne 130 = .ok (.iaload, 1) := by decide +kernel
theorem dX8_readsOne_131 : decode cX8_readsOne 131 = .ok (.if_icmp .ge 22, 3) := by decide +kernel
theorem dX8_readsOne_134 : decode cX8_readsOne 134 = .ok (.aload_n 0, 1) := by decide +kernel
theorem dX8_readsOne_135 : decode cX8_readsOne 135 = .ok (.getfield 13, 3) := by decide +kernel
theorem dX8_readsOne_138 : decode cX8_readsOne 138 = .ok (.bipush 47, 2) := by decide +kernel
theorem dX8_readsOne_140 : decode cX8_readsOne 140 = .ok (.iload_n 1, 1) := by decide +kernel
theorem dX8_readsOne_141 : decode cX8_readsOne 141 = .ok (.imul, 1) := by decide +kernel
theorem dX8_readsOne_142 : decode cX8_readsOne 142 = .ok (.iload_n 3, 1) := by decide +kernel
theorem dX8_readsOne_143 : decode cX8_readsOne 143 = .ok (.iadd, 1) := by decide +kernel
theorem dX8_readsOne_144 : decode cX8_readsOne 144 = .ok (.iconst 4, 1) := by decide +kernel
theorem dX8_readsOne_145 : decode cX8_readsOne 145 = .ok (.iadd, 1) := by decide +kernel
theorem dX8_readsOne_146 : decode cX8_readsOne 146 = .ok (.iaload, 1) := by decide +kernel
theorem dX8_readsOne_147 : decode cX8_readsOne 147 = .ok (.bipush 48, 2) := by decide +kernel
theorem dX8_readsOne_149 : decode cX8_readsOne 149 = .ok (.isub, 1) := by decide +kernel
theorem dX8_readsOne_150 : decode cX8_readsOne 150 = .ok (.goto 4, 3) := by decide +kernel
theorem dX8_readsOne_153 : decode cX8_readsOne 153 = .ok (.iconst (-1), 1) := by decide +kernel
theorem dX8_readsOne_154 : decode cX8_readsOne 154 = .ok (.istore 6, 2) := by decide +kernel
theorem dX8_readsOne_156 : decode cX8_readsOne 156 = .ok (.iload 6, 2) := by decide +kernel
theorem dX8_readsOne_158 : decode cX8_readsOne 158 = .ok (.iconst 0, 1) := by decide +kernel
theorem dX8_readsOne_159 : decode cX8_readsOne 159 = .ok (.bipush 9, 2) := by decide +kernel
theorem dX8_readsOne_161 : decode cX8_readsOne 161 = .ok (.invokestatic 98, 3) := by decide +kernel
theorem dX8_readsOne_164 : decode cX8_readsOne 164 = .ok (.ifCond .ne 5, 3) := by decide +kernel
theorem dX8_readsOne_167 : decode cX8_readsOne 167 = .ok (.iconst 4, 1) := by decide +kernel
theorem dX8_readsOne_168 : decode cX8_readsOne 168 = .ok (.ireturn, 1) := by decide +kernel
theorem dX8_readsOne_169 : decode cX8_readsOne 169 = .ok (.iload_n 1, 1) := by decide +kernel
theorem dX8_readsOne_170 : decode cX8_readsOne 170 = .ok (.ifCond .ne 22, 3) := by decide +kernel
theorem dX8_readsOne_173 : decode cX8_readsOne 173 = .ok (.aload_n 0, 1) := by decide +kernel
theorem dX8_readsOne_174 : decode cX8_readsOne 174 = .ok (.getfield 16, 3) := by decide +kernel
theorem dX8_readsOne_177 : decode cX8_readsOne 177 = .ok (.iload_n 2, 1) := by decide +kernel
theorem dX8_readsOne_178 : decode cX8_readsOne 178 = .ok (.iload 5, 2) := by decide +kernel
theorem dX8_readsOne_180 : decode cX8_readsOne 180 = .ok (.iastore, 1) := by decide +kernel
theorem dX8_readsOne_181 : decode cX8_readsOne 181 = .ok (.aload_n 0, 1) := by decide +kernel
theorem dX8_readsOne_182 : decode cX8_readsOne 182 = .ok (.getfield 19, 3) := by decide +kernel
theorem dX8_readsOne_185 : decode cX8_readsOne 185 = .ok (.iload_n 2, 1) := by decide +kernel
theorem dX8_readsOne_186 : decode cX8_readsOne 186 = .ok (.iload 6, 2) := by decide +kernel
theorem dX8_readsOne_188 : decode cX8_readsOne 188 = .ok (.iastore, 1) := by decide +kernel
theorem dX8_readsOne_189 : decode cX8_readsOne 189 = .ok (.goto 27, 3) := by decide +kernel
theorem dX8_readsOne_192 : decode cX8_readsOne 192 = .ok (.aload_n 0, 1) := by decide +kernel
theorem dX8_readsOne_193 : decode cX8_readsOne 193 = .ok (.getfield 22, 3) := by decide +kernel
theorem dX8_readsOne_196 : decode cX8_readsOne 196 = .ok (.iload_n 2, 1) := by decide +kernel
theorem dX8_readsOne_197 : decode cX8_readsOne 197 = .ok (.iload 4, 2) := by decide +kernel
theorem dX8_readsOne_199 : decode cX8_readsOne 199 = .ok (.iastore, 1) := by decide +kernel
theorem dX8_readsOne_200 : decode cX8_readsOne 200 = .ok (.aload_n 0, 1) := by decide +kernel
theorem dX8_readsOne_201 : decode cX8_readsOne 201 = .ok (.getfield 25, 3) := by decide +kernel
theorem dX8_readsOne_204 : decode cX8_readsOne 204 = .ok (.iload_n 2, 1) := by decide +kernel
theorem dX8_readsOne_205 : decode cX8_readsOne 205 = .ok (.iload 5, 2) := by decide +kernel
theorem dX8_readsOne_207 : decode cX8_readsOne 207 = .ok (.iastore, 1) := by decide +kernel
theorem dX8_readsOne_208 : decode cX8_readsOne 208 = .ok (.aload_n 0, 1) := by decide +kernel
theorem dX8_readsOne_209 : decode cX8_readsOne 209 = .ok (.getfield 28, 3) := by decide +kernel
theorem dX8_readsOne_212 : decode cX8_readsOne 212 = .ok (.iload_n 2, 1) := by decide +kernel
theorem dX8_readsOne_213 : decode cX8_readsOne 213 = .ok (.iload 6, 2) := by decide +kernel
theorem dX8_readsOne_215 : decode cX8_readsOne 215 = .ok (.iastore, 1) := by decide +kernel
theorem dX8_readsOne_216 : decode cX8_readsOne 216 = .ok (.iconst 5, 1) := by decide +kernel
theorem dX8_readsOne_217 : decode cX8_readsOne 217 = .ok (.ireturn, 1) := by decide +kernel
theorem dX8_readsText_0 : decode cX8_readsText 0 = .ok (.iconst 0, 1) := by decide +kernel
theorem dX8_readsText_1 : decode cX8_readsText 1 = .ok (.istore_n 2, 1) := by decide +kernel
theorem dX8_readsText_2 : decode cX8_readsText 2 = .ok (.iconst 0, 1) := by decide +kernel
theorem dX8_readsText_3 : decode cX8_readsText 3 = .ok (.istore_n 3, 1) := by decide +kernel
theorem dX8_readsText_4 : decode cX8_readsText 4 = .ok (.aload_n 0, 1) := by decide +kernel
theorem dX8_readsText_5 : decode cX8_readsText 5 = .ok (.iload_n 1, 1) := by decide +kernel
theorem dX8_readsText_6 : decode cX8_readsText 6 = .ok (.ifCond .ne 7, 3) := by decide +kernel
theorem dX8_readsText_9 : decode cX8_readsText 9 = .ok (.iconst 0, 1) := by decide +kernel
theorem dX8_readsText_10 : decode cX8_readsText 10 = .ok (.goto 7, 3) := by decide +kernel
theorem dX8_readsText_13 : decode cX8_readsText 13 = .ok (.aload_n 0, 1) := by decide +kernel
theorem dX8_readsText_14 : decode cX8_readsText 14 = .ok (.getfield 106, 3) := by decide +kernel
theorem dX8_readsText_17 : decode cX8_readsText 17 = .ok (.putfield 106, 3) := by decide +kernel
theorem dX8_readsText_20 : decode cX8_readsText 20 = .ok (.aload_n 0, 1) := by decide +kernel
theorem dX8_readsText_21 : decode cX8_readsText 21 = .ok (.iload_n 1, 1) := by decide +kernel
theorem dX8_readsText_22 : decode cX8_readsText 22 = .ok (.iconst 1, 1) := by decide +kernel
theorem dX8_readsText_23 : decode cX8_readsText 23 = .ok (.if_icmp .ne 7, 3) := by decide +kernel
theorem dX8_readsText_26 : decode cX8_readsText 26 = .ok (.iconst 0, 1) := by decide +kernel
theorem dX8_readsText_27 : decode cX8_readsText 27 = .ok (.goto 7, 3) := by decide +kernel
theorem dX8_readsText_30 : decode cX8_readsText 30 = .ok (.aload_n 0, 1) := by decide +kernel
theorem dX8_readsText_31 : decode cX8_readsText 31 = .ok (.getfield 109, 3) := by decide +kernel
theorem dX8_readsText_34 : decode cX8_readsText 34 = .ok (.putfield 109, 3) := by decide +kernel
theorem dX8_readsText_37 : decode cX8_readsText 37 = .ok (.iload_n 3, 1) := by decide +kernel
theorem dX8_readsText_38 : decode cX8_readsText 38 = .ok (.aload_n 0, 1) := by decide +kernel
theorem dX8_readsText_39 : decode cX8_readsText 39 = .ok (.getfield 7, 3) := by decide +kernel
theorem dX8_readsText_42 : decode cX8_readsText 42 = .ok (.iload_n 1, 1) := by decide +kernel
theorem dX8_readsText_43 : decode cX8_readsText 43 = .ok (.iaload, 1) := by decide +kernel
theorem dX8_readsText_44 : decode cX8_readsText 44 = .ok (.if_icmp .lt 7, 3) := by decide +kernel
theorem dX8_readsText_47 : decode cX8_readsText 47 = .ok (.iload_n 3, 1) := by decide +kernel
theorem dX8_readsText_48 : decode cX8_readsText 48 = .ok (.ifCond .le 108, 3) := by decide +kernel
theorem dX8_readsText_51 : decode cX8_readsText 51 = .ok (.iload_n 2, 1) := by decide +kernel
theorem dX8_readsText_52 : decode cX8_readsText 52 = .ok (.bipush 8, 2) := by decide +kernel
theorem dX8_readsText_54 : decode cX8_readsText 54 = .ok (.if_icmp .ne 7, 3) := by decide +kernel
theorem dX8_readsText_57 : decode cX8_readsText 57 = .ok (.iconst 0, 1) := by decide +kernel
theorem dX8_readsText_58 : decode cX8_readsText 58 = .ok (.goto 10, 3) := by decide +kernel
theorem dX8_readsText_61 : decode cX8_readsText 61 = .ok (.aload_n 0, 1) := by decide +kernel
theorem dX8_readsText_62 : decode cX8_readsText 62 = .ok (.iload_n 1, 1) := by decide +kernel
theorem dX8_readsText_63 : decode cX8_readsText 63 = .ok (.iload_n 2, 1) := by decide +kernel
theorem dX8_readsText_64 : decode cX8_readsText 64 = .ok (.iload_n 3, 1) := by decide +kernel
theorem dX8_readsText_65 : decode cX8_readsText 65 = .ok (.invokevirtual 112, 3) := by decide +kernel
theorem dX8_readsText_68 : decode cX8_readsText 68 = .ok (.istore 4, 2) := by decide +kernel
theorem dX8_readsText_70 : decode cX8_readsText 70 = .ok (.iload 4, 2) := by decide +kernel
theorem dX8_readsText_72 : decode cX8_readsText 72 = .ok (.iconst 5, 1) := by decide +kernel
theorem dX8_readsText_73 : decode cX8_readsText 73 = .ok (.if_icmp .ge 8, 3) := by decide +kernel
theorem dX8_readsText_76 : decode cX8_readsText 76 = .ok (.iload_n 3, 1) := by decide +kernel
theorem dX8_readsText_77 : decode cX8_readsText 77 = .ok (.iload 4, 2) := by decide +kernel
theorem dX8_readsText_79 : decode cX8_readsText 79 = .ok (.iadd, 1) := by decide +kernel
theorem dX8_readsText_80 : decode cX8_readsText 80 = .ok (.ireturn, 1) := by decide +kernel
theorem dX8_readsText_81 : decode cX8_readsText 81 = .ok (.iinc 2 1, 3) := by decide +kernel
theorem dX8_readsText_84 : decode cX8_readsText 84 = .ok (.iinc 3 5, 3) := by decide +kernel
theorem dX8_readsText_87 : decode cX8_readsText 87 = .ok (.iload_n 3, 1) := by decide +kernel
theorem dX8_readsText_88 : decode cX8_readsText 88 = .ok (.aload_n 0, 1) := by decide +kernel
theorem dX8_readsText_89 : decode cX8_readsText 89 = .ok (.getfield 7, 3) := by decide +kernel
theorem dX8_readsText_92 : decode cX8_readsText 92 = .ok (.iload_n 1, 1) := by decide +kernel
theorem dX8_readsText_93 : decode cX8_readsText 93 = .ok (.iaload, 1) := by decide +kernel
theorem dX8_readsText_94 : decode cX8_readsText 94 = .ok (.if_icmp .ne 38, 3) := by decide +kernel
theorem dX8_readsText_97 : decode cX8_readsText 97 = .ok (.aload_n 0, 1) := by decide +kernel
theorem dX8_readsText_98 : decode cX8_readsText 98 = .ok (.iload_n 1, 1) := by decide +kernel
theorem dX8_readsText_99 : decode cX8_readsText 99 = .ok (.ifCond .ne 7, 3) := by decide +kernel
theorem dX8_readsText_102 : decode cX8_readsText 102 = .ok (.iload_n 2, 1) := by decide +kernel
theorem dX8_readsText_103 : decode cX8_readsText 103 = .ok (.goto 7, 3) := by decide +kernel
theorem dX8_readsText_106 : decode cX8_readsText 106 = .ok (.aload_n 0, 1) := by decide +kernel
theorem dX8_readsText_107 : decode cX8_readsText 107 = .ok (.getfield 106, 3) := by decide +kernel
theorem dX8_readsText_110 : decode cX8_readsText 110 = .ok (.putfield 106, 3) := by decide +kernel
theorem dX8_readsText_113 : decode cX8_readsText 113 = .ok (.aload_n 0, 1) := by decide +kernel
theorem dX8_readsText_114 : decode cX8_readsText 114 = .ok (.iload_n 1, 1) := by decide +kernel
theorem dX8_readsText_115 : decode cX8_readsText 115 = .ok (.iconst 1, 1) := by decide +kernel
theorem dX8_readsText_116 : decode cX8_readsText 116 = .ok (.if_icmp .ne 7, 3) := by decide +kernel
theorem dX8_readsText_119 : decode cX8_readsText 119 = .ok (.iload_n 2, 1) := by decide +kernel
theorem dX8_readsText_120 : decode cX8_readsText 120 = .ok (.goto 7, 3) := by decide +kernel
theorem dX8_readsText_123 : decode cX8_readsText 123 = .ok (.aload_n 0, 1) := by decide +kernel
theorem dX8_readsText_124 : decode cX8_readsText 124 = .ok (.getfield 109, 3) := by decide +kernel
theorem dX8_readsText_127 : decode cX8_readsText 127 = .ok (.putfield 109, 3) := by decide +kernel
theorem dX8_readsText_130 : decode cX8_readsText 130 = .ok (.iconst (-1), 1) := by decide +kernel
theorem dX8_readsText_131 : decode cX8_readsText 131 = .ok (.ireturn, 1) := by decide +kernel
theorem dX8_readsText_132 : decode cX8_readsText 132 = .ok (.aload_n 0, 1) := by decide +kernel
theorem dX8_readsText_133 : decode cX8_readsText 133 = .ok (.getfield 13, 3) := by decide +kernel
theorem dX8_readsText_136 : decode cX8_readsText 136 = .ok (.bipush 47, 2) := by decide +kernel
theorem dX8_readsText_138 : decode cX8_readsText 138 = .ok (.iload_n 1, 1) := by decide +kernel
theorem dX8_readsText_139 : decode cX8_readsText 139 = .ok (.imul, 1) := by decide +kernel
theorem dX8_readsText_140 : decode cX8_readsText 140 = .ok (.iload_n 3, 1) := by decide +kernel
theorem dX8_readsText_141 : decode cX8_readsText 141 = .ok (.iadd, 1) := by decide +kernel
theorem dX8_readsText_142 : decode cX8_readsText 142 = .ok (.iaload, 1) := by decide +kernel
theorem dX8_readsText_143 : decode cX8_readsText 143 = .ok (.bipush 59, 2) := by decide +kernel
theorem dX8_readsText_145 : decode cX8_readsText 145 = .ok (.if_icmp .eq 5, 3) := by decide +kernel
theorem dX8_readsText_148 : decode cX8_readsText 148 = .ok (.iload_n 3, 1) := by decide +kernel
theorem dX8_readsText_149 : decode cX8_readsText 149 = .ok (.ireturn, 1) := by decide +kernel
theorem dX8_readsText_150 : decode cX8_readsText 150 = .ok (.iinc 3 1, 3) := by decide +kernel
theorem dX8_readsText_153 : decode cX8_readsText 153 = .ok (.goto (-116), 3) := by decide +kernel
theorem dX8_readsText_156 : decode cX8_readsText 156 = .ok (.iconst (-1), 1) := by decide +kernel
theorem dX8_readsText_157 : decode cX8_readsText 157 = .ok (.ireturn, 1) := by decide +kernel
theorem dX8_faultOf_0 : decode cX8_faultOf 0 = .ok (.aload_n 0, 1) := by decide +kernel
theorem dX8_faultOf_1 : decode cX8_faultOf 1 = .ok (.iconst 0, 1) := by decide +kernel
theorem dX8_faultOf_2 : decode cX8_faultOf 2 = .ok (.invokevirtual 116, 3) := by decide +kernel
theorem dX8_faultOf_5 : decode cX8_faultOf 5 = .ok (.istore_n 2, 1) := by decide +kernel
theorem dX8_faultOf_6 : decode cX8_faultOf 6 = .ok (.aload_n 0, 1) := by decide +kernel
theorem dX8_faultOf_7 : decode cX8_faultOf 7 = .ok (.iconst 1, 1) := by decide +kernel
theorem dX8_faultOf_8 : decode cX8_faultOf 8 = .ok (.invokevirtual 116, 3) := by decide +kernel
theorem dX8_faultOf_11 : decode cX8_faultOf 11 = .ok (.istore_n 3, 1) := by decide +kernel
theorem dX8_faultOf_12 : decode cX8_faultOf 12 = .ok (.iload_n 1, 1) := by decide +kernel
theorem dX8_faultOf_13 : decode cX8_faultOf 13 = .ok (.ifCond .ne 7, 3) := by decide +kernel
theorem dX8_faultOf_16 : decode cX8_faultOf 16 = .ok (.iload_n 2, 1) := by decide +kernel
theorem dX8_faultOf_17 : decode cX8_faultOf 17 = .ok (.goto 4, 3) := by decide +kernel
theorem dX8_faultOf_20 : decode cX8_faultOf 20 = .ok (.iload_n 3, 1) := by decide +kernel
theorem dX8_faultOf_21 : decode cX8_faultOf 21 = .ok (.ireturn, 1) := by decide +kernel
theorem dX8_reads_0 : decode cX8_reads 0 = .ok (.aload_n 0, 1) := by decide +kernel
theorem dX8_reads_1 : decode cX8_reads 1 = .ok (.iconst 0, 1) := by decide +kernel
theorem dX8_reads_2 : decode cX8_reads 2 = .ok (.invokevirtual 120, 3) := by decide +kernel
theorem dX8_reads_5 : decode cX8_reads 5 = .ok (.istore_n 1, 1) := by decide +kernel
theorem dX8_reads_6 : decode cX8_reads 6 = .ok (.return_, 1) := by decide +kernel
theorem dX8_fault_0 : decode cX8_fault 0 = .ok (.iload_n 1, 1) := by decide +kernel
theorem dX8_fault_1 : decode cX8_fault 1 = .ok (.invokestatic 102, 3) := by decide +kernel
theorem dX8_fault_4 : decode cX8_fault 4 = .ok (.ifCond .eq 11, 3) := by decide +kernel
theorem dX8_fault_7 : decode cX8_fault 7 = .ok (.aload_n 0, 1) := by decide +kernel
theorem dX8_fault_8 : decode cX8_fault 8 = .ok (.iload_n 1, 1) := by decide +kernel
theorem dX8_fault_9 : decode cX8_fault 9 = .ok (.invokevirtual 120, 3) := by decide +kernel
theorem dX8_fault_12 : decode cX8_fault 12 = .ok (.goto 5, 3) := by decide +kernel
theorem dX8_fault_15 : decode cX8_fault 15 = .ok (.bipush (-2), 2) := by decide +kernel
theorem dX8_fault_17 : decode cX8_fault 17 = .ok (.ireturn, 1) := by decide +kernel
theorem dX8_isVirtue_0 : decode cX8_isVirtue 0 = .ok (.aload_n 0, 1) := by decide +kernel
theorem dX8_isVirtue_1 : decode cX8_isVirtue 1 = .ok (.invokevirtual 123, 3) := by decide +kernel
theorem dX8_isVirtue_4 : decode cX8_isVirtue 4 = .ok (.iload_n 1, 1) := by decide +kernel
theorem dX8_isVirtue_5 : decode cX8_isVirtue 5 = .ok (.iconst 0, 1) := by decide +kernel
theorem dX8_isVirtue_6 : decode cX8_isVirtue 6 = .ok (.aload_n 0, 1) := by decide +kernel
theorem dX8_isVirtue_7 : decode cX8_isVirtue 7 = .ok (.getfield 106, 3) := by decide +kernel
theorem dX8_isVirtue_10 : decode cX8_isVirtue 10 = .ok (.iconst 1, 1) := by decide +kernel
theorem dX8_isVirtue_11 : decode cX8_isVirtue 11 = .ok (.isub, 1) := by decide +kernel
theorem dX8_isVirtue_12 : decode cX8_isVirtue 12 = .ok (.invokestatic 98, 3) := by decide +kernel
theorem dX8_isVirtue_15 : decode cX8_isVirtue 15 = .ok (.ireturn, 1) := by decide +kernel
theorem dX8_isClaimant_0 : decode cX8_isClaimant 0 = .ok (.aload_n 0, 1) := by decide +kernel
theorem dX8_isClaimant_1 : decode cX8_isClaimant 1 = .ok (.invokevirtual 123, 3) := by decide +kernel
theorem dX8_isClaimant_4 : decode cX8_isClaimant 4 = .ok (.iload_n 1, 1) := by decide +kernel
theorem dX8_isClaimant_5 : decode cX8_isClaimant 5 = .ok (.iconst 0, 1) := by decide +kernel
theorem dX8_isClaimant_6 : decode cX8_isClaimant 6 = .ok (.aload_n 0, 1) := by decide +kernel
theorem dX8_isClaimant_7 : decode cX8_isClaimant 7 = .ok (.getfield 109, 3) := by decide +kernel
theorem dX8_isClaimant_10 : decode cX8_isClaimant 10 = .ok (.iconst 1, 1) := by decide +kernel
theorem dX8_isClaimant_11 : decode cX8_isClaimant 11 = .ok (.isub, 1) := by decide +kernel
theorem dX8_isClaimant_12 : decode cX8_isClaimant 12 = .ok (.invokestatic 98, 3) := by decide +kernel
theorem dX8_isClaimant_15 : decode cX8_isClaimant 15 = .ok (.ireturn, 1) := by decide +kernel
theorem dX8_virtue_0 : decode cX8_virtue 0 = .ok (.aload_n 0, 1) := by decide +kernel
theorem dX8_virtue_1 : decode cX8_virtue 1 = .ok (.iload_n 1, 1) := by decide +kernel
theorem dX8_virtue_2 : decode cX8_virtue 2 = .ok (.invokevirtual 126, 3) := by decide +kernel
theorem dX8_virtue_5 : decode cX8_virtue 5 = .ok (.ifCond .eq 34, 3) := by decide +kernel
theorem dX8_virtue_8 : decode cX8_virtue 8 = .ok (.iload_n 2, 1) := by decide +kernel
theorem dX8_virtue_9 : decode cX8_virtue 9 = .ok (.iconst 0, 1) := by decide +kernel
theorem dX8_virtue_10 : decode cX8_virtue 10 = .ok (.iconst 1, 1) := by decide +kernel
theorem dX8_virtue_11 : decode cX8_virtue 11 = .ok (.invokestatic 98, 3) := by decide +kernel
theorem dX8_virtue_14 : decode cX8_virtue 14 = .ok (.ifCond .eq 25, 3) := by decide +kernel
theorem dX8_virtue_17 : decode cX8_virtue 17 = .ok (.iload_n 2, 1) := by decide +kernel
theorem dX8_virtue_18 : decode cX8_virtue 18 = .ok (.ifCond .ne 12, 3) := by decide +kernel
theorem dX8_virtue_21 : decode cX8_virtue 21 = .ok (.aload_n 0, 1) := by decide +kernel
theorem dX8_virtue_22 : decode cX8_virtue 22 = .ok (.getfield 16, 3) := by decide +kernel
theorem dX8_virtue_25 : decode cX8_virtue 25 = .ok (.iload_n 1, 1) := by decide +kernel
theorem dX8_virtue_26 : decode cX8_virtue 26 = .ok (.iaload, 1) := by decide +kernel
theorem dX8_virtue_27 : decode cX8_virtue 27 = .ok (.goto 14, 3) := by decide +kernel
theorem dX8_virtue_30 : decode cX8_virtue 30 = .ok (.aload_n 0, 1) := by decide +kernel
theorem dX8_virtue_31 : decode cX8_virtue 31 = .ok (.getfield 19, 3) := by decide +kernel
theorem dX8_virtue_34 : decode cX8_virtue 34 = .ok (.iload_n 1, 1) := by decide +kernel
theorem dX8_virtue_35 : decode cX8_virtue 35 = .ok (.iaload, 1) := by decide +kernel
theorem dX8_virtue_36 : decode cX8_virtue 36 = .ok (.goto 5, 3) := by decide +kernel
theorem dX8_virtue_39 : decode cX8_virtue 39 = .ok (.bipush (-2), 2) := by decide +kernel
theorem dX8_virtue_41 : decode cX8_virtue 41 = .ok (.ireturn, 1) := by decide +kernel
theorem dX8_claimantOf_0 : decode cX8_claimantOf 0 = .ok (.iload_n 2, 1) := by decide +kernel
theorem dX8_claimantOf_1 : decode cX8_claimantOf 1 = .ok (.ifCond .ne 12, 3) := by decide +kernel
theorem dX8_claimantOf_4 : decode cX8_claimantOf 4 = .ok (.aload_n 0, 1) := by decide +kernel
theorem dX8_claimantOf_5 : decode cX8_claimantOf 5 = .ok (.getfield 22, 3) := by decide +kernel
theorem dX8_claimantOf_8 : decode cX8_claimantOf 8 = .ok (.iload_n 1, 1) := by decide +kernel
theorem dX8_claimantOf_9 : decode cX8_claimantOf 9 = .ok (.iaload, 1) := by decide +kernel
theorem dX8_claimantOf_10 : decode cX8_claimantOf 10 = .ok (.goto 23, 3) := by decide +kernel
theorem dX8_claimantOf_13 : decode cX8_claimantOf 13 = .ok (.iload_n 2, 1) := by decide +kernel
theorem dX8_claimantOf_14 : decode cX8_claimantOf 14 = .ok (.iconst 1, 1) := by decide +kernel
theorem dX8_claimantOf_15 : decode cX8_claimantOf 15 = .ok (.if_icmp .ne 12, 3) := by decide +kernel
theorem dX8_claimantOf_18 : decode cX8_claimantOf 18 = .ok (.aload_n 0, 1) := by decide +kernel
theorem dX8_claimantOf_19 : decode cX8_claimantOf 19 = .ok (.getfield 25, 3) := by decide +kernel
theorem dX8_claimantOf_22 : decode cX8_claimantOf 22 = .ok (.iload_n 1, 1) := by decide +kernel
theorem dX8_claimantOf_23 : decode cX8_claimantOf 23 = .ok (.iaload, 1) := by decide +kernel
theorem dX8_claimantOf_24 : decode cX8_claimantOf 24 = .ok (.goto 9, 3) := by decide +kernel
theorem dX8_claimantOf_27 : decode cX8_claimantOf 27 = .ok (.aload_n 0, 1) := by decide +kernel
theorem dX8_claimantOf_28 : decode cX8_claimantOf 28 = .ok (.getfield 28, 3) := by decide +kernel
theorem dX8_claimantOf_31 : decode cX8_claimantOf 31 = .ok (.iload_n 1, 1) := by decide +kernel
theorem dX8_claimantOf_32 : decode cX8_claimantOf 32 = .ok (.iaload, 1) := by decide +kernel
theorem dX8_claimantOf_33 : decode cX8_claimantOf 33 = .ok (.ireturn, 1) := by decide +kernel
theorem dX8_claimant_0 : decode cX8_claimant 0 = .ok (.aload_n 0, 1) := by decide +kernel
theorem dX8_claimant_1 : decode cX8_claimant 1 = .ok (.iload_n 1, 1) := by decide +kernel
theorem dX8_claimant_2 : decode cX8_claimant 2 = .ok (.invokevirtual 129, 3) := by decide +kernel
theorem dX8_claimant_5 : decode cX8_claimant 5 = .ok (.ifCond .eq 21, 3) := by decide +kernel
theorem dX8_claimant_8 : decode cX8_claimant 8 = .ok (.iload_n 2, 1) := by decide +kernel
theorem dX8_claimant_9 : decode cX8_claimant 9 = .ok (.iconst 0, 1) := by decide +kernel
theorem dX8_claimant_10 : decode cX8_claimant 10 = .ok (.iconst 2, 1) := by decide +kernel
theorem dX8_claimant_11 : decode cX8_claimant 11 = .ok (.invokestatic 98, 3) := by decide +kernel
theorem dX8_claimant_14 : decode cX8_claimant 14 = .ok (.ifCond .eq 12, 3) := by decide +kernel
theorem dX8_claimant_17 : decode cX8_claimant 17 = .ok (.aload_n 0, 1) := by decide +kernel
theorem dX8_claimant_18 : decode cX8_claimant 18 = .ok (.iload_n 1, 1) := by decide +kernel
theorem dX8_claimant_19 : decode cX8_claimant 19 = .ok (.iload_n 2, 1) := by decide +kernel
theorem dX8_claimant_20 : decode cX8_claimant 20 = .ok (.invokevirtual 132, 3) := by decide +kernel
theorem dX8_claimant_23 : decode cX8_claimant 23 = .ok (.goto 5, 3) := by decide +kernel
theorem dX8_claimant_26 : decode cX8_claimant 26 = .ok (.bipush (-2), 2) := by decide +kernel
theorem dX8_claimant_28 : decode cX8_claimant 28 = .ok (.ireturn, 1) := by decide +kernel
theorem dX8_set_0 : decode cX8_set 0 = .ok (.iload_n 1, 1) := by decide +kernel
theorem dX8_set_1 : decode cX8_set 1 = .ok (.iconst 2, 1) := by decide +kernel
theorem dX8_set_2 : decode cX8_set 2 = .ok (.if_icmp .ne 7, 3) := by decide +kernel
theorem dX8_set_5 : decode cX8_set 5 = .ok (.iconst 1, 1) := by decide +kernel
theorem dX8_set_6 : decode cX8_set 6 = .ok (.goto 4, 3) := by decide +kernel
theorem dX8_set_9 : decode cX8_set 9 = .ok (.iconst 0, 1) := by decide +kernel
theorem dX8_set_10 : decode cX8_set 10 = .ok (.istore_n 3, 1) := by decide +kernel
theorem dX8_set_11 : decode cX8_set 11 = .ok (.iload_n 1, 1) := by decide +kernel
theorem dX8_set_12 : decode cX8_set 12 = .ok (.ifCond .ne 7, 3) := by decide +kernel
theorem dX8_set_15 : decode cX8_set 15 = .ok (.iconst 4, 1) := by decide +kernel
theorem dX8_set_16 : decode cX8_set 16 = .ok (.goto 15, 3) := by decide +kernel
theorem dX8_set_19 : decode cX8_set 19 = .ok (.iload_n 1, 1) := by decide +kernel
theorem dX8_set_20 : decode cX8_set 20 = .ok (.iconst 1, 1) := by decide +kernel
theorem dX8_set_21 : decode cX8_set 21 = .ok (.if_icmp .ne 8, 3) := by decide +kernel
theorem dX8_set_24 : decode cX8_set 24 = .ok (.bipush 15, 2) := by decide +kernel
theorem dX8_set_26 : decode cX8_set 26 = .ok (.goto 5, 3) := by decide +kernel
theorem dX8_set_29 : decode cX8_set 29 = .ok (.bipush 9, 2) := by decide +kernel
theorem dX8_set_31 : decode cX8_set 31 = .ok (.istore 4, 2) := by decide +kernel
theorem dX8_set_33 : decode cX8_set 33 = .ok (.iload_n 1, 1) := by decide +kernel
theorem dX8_set_34 : decode cX8_set 34 = .ok (.iconst 0, 1) := by decide +kernel
theorem dX8_set_35 : decode cX8_set 35 = .ok (.iconst 2, 1) := by decide +kernel
theorem dX8_set_36 : decode cX8_set 36 = .ok (.invokestatic 98, 3) := by decide +kernel
theorem dX8_set_39 : decode cX8_set 39 = .ok (.ifCond .eq 13, 3) := by decide +kernel
theorem dX8_set_42 : decode cX8_set 42 = .ok (.iload_n 2, 1) := by decide +kernel
theorem dX8_set_43 : decode cX8_set 43 = .ok (.iload_n 3, 1) := by decide +kernel
theorem dX8_set_44 : decode cX8_set 44 = .ok (.iload 4, 2) := by decide +kernel
theorem dX8_set_46 : decode cX8_set 46 = .ok (.invokestatic 98, 3) := by decide +kernel
theorem dX8_set_49 : decode cX8_set 49 = .ok (.ifCond .ne 6, 3) := by decide +kernel
theorem dX8_set_52 : decode cX8_set 52 = .ok (.bipush (-2), 2) := by decide +kernel
theorem dX8_set_54 : decode cX8_set 54 = .ok (.ireturn, 1) := by decide +kernel
theorem dX8_set_55 : decode cX8_set 55 = .ok (.iload_n 1, 1) := by decide +kernel
theorem dX8_set_56 : decode cX8_set 56 = .ok (.ifCond .ne 10, 3) := by decide +kernel
theorem dX8_set_59 : decode cX8_set 59 = .ok (.aload_n 0, 1) := by decide +kernel
theorem dX8_set_60 : decode cX8_set 60 = .ok (.getfield 89, 3) := by decide +kernel
theorem dX8_set_63 : decode cX8_set 63 = .ok (.goto 19, 3) := by decide +kernel
theorem dX8_set_66 : decode cX8_set 66 = .ok (.iload_n 1, 1) := by decide +kernel
theorem dX8_set_67 : decode cX8_set 67 = .ok (.iconst 1, 1) := by decide +kernel
theorem dX8_set_68 : decode cX8_set 68 = .ok (.if_icmp .ne 10, 3) := by decide +kernel
theorem dX8_set_71 : decode cX8_set 71 = .ok (.aload_n 0, 1) := by decide +kernel
theorem dX8_set_72 : decode cX8_set 72 = .ok (.getfield 136, 3) := by decide +kernel
theorem dX8_set_75 : decode cX8_set 75 = .ok (.goto 7, 3) := by decide +kernel
theorem dX8_set_78 : decode cX8_set 78 = .ok (.aload_n 0, 1) := by decide +kernel
theorem dX8_set_79 : decode cX8_set 79 = .ok (.getfield 93, 3) := by decide +kernel
theorem dX8_set_82 : decode cX8_set 82 = .ok (.istore 5, 2) := by decide +kernel
theorem dX8_set_84 : decode cX8_set 84 = .ok (.aload_n 0, 1) := by decide +kernel
theorem dX8_set_85 : decode cX8_set 85 = .ok (.iload_n 1, 1) := by decide +kernel
theorem dX8_set_86 : decode cX8_set 86 = .ok (.ifCond .ne 7, 3) := by decide +kernel
theorem dX8_set_89 : decode cX8_set 89 = .ok (.iload_n 2, 1) := by decide +kernel
theorem dX8_set_90 : decode cX8_set 90 = .ok (.goto 7, 3) := by decide +kernel
theorem dX8_set_93 : decode cX8_set 93 = .ok (.aload_n 0, 1) := by decide +kernel
theorem dX8_set_94 : decode cX8_set 94 = .ok (.getfield 89, 3) := by decide +kernel
theorem dX8_set_97 : decode cX8_set 97 = .ok (.putfield 89, 3) := by decide +kernel
theorem dX8_set_100 : decode cX8_set 100 = .ok (.aload_n 0, 1) := by decide +kernel
theorem dX8_set_101 : decode cX8_set 101 = .ok (.iload_n 1, 1) := by decide +kernel
theorem dX8_set_102 : decode cX8_set 102 = .ok (.iconst 1, 1) := by decide +kernel
theorem dX8_set_103 : decode cX8_set 103 = .ok (.if_icmp .ne 7, 3) := by decide +kernel
theorem dX8_set_106 : decode cX8_set 106 = .ok (.iload_n 2, 1) := by decide +kernel
theorem dX8_set_107 : decode cX8_set 107 = .ok (.goto 7, 3) := by decide +kernel
theorem dX8_set_110 : decode cX8_set 110 = .ok (.aload_n 0, 1) := by decide +kernel
theorem dX8_set_111 : decode cX8_set 111 = .ok (.getfield 136, 3) := by decide +kernel
theorem dX8_set_114 : decode cX8_set 114 = .ok (.putfield 136, 3) := by decide +kernel
theorem dX8_set_117 : decode cX8_set 117 = .ok (.aload_n 0, 1) := by decide +kernel
theorem dX8_set_118 : decode cX8_set 118 = .ok (.iload_n 1, 1) := by decide +kernel
theorem dX8_set_119 : decode cX8_set 119 = .ok (.iconst 2, 1) := by decide +kernel
theorem dX8_set_120 : decode cX8_set 120 = .ok (.if_icmp .ne 7, 3) := by decide +kernel
theorem dX8_set_123 : decode cX8_set 123 = .ok (.iload_n 2, 1) := by decide +kernel
theorem dX8_set_124 : decode cX8_set 124 = .ok (.goto 7, 3) := by decide +kernel
theorem dX8_set_127 : decode cX8_set 127 = .ok (.aload_n 0, 1) := by decide +kernel
theorem dX8_set_128 : decode cX8_set 128 = .ok (.getfield 93, 3) := by decide +kernel
theorem dX8_set_131 : decode cX8_set 131 = .ok (.putfield 93, 3) := by decide +kernel
theorem dX8_set_134 : decode cX8_set 134 = .ok (.iload 5, 2) := by decide +kernel
theorem dX8_set_136 : decode cX8_set 136 = .ok (.ireturn, 1) := by decide +kernel
theorem dX8_handing_0 : decode cX8_handing 0 = .ok (.iload_n 1, 1) := by decide +kernel
theorem dX8_handing_1 : decode cX8_handing 1 = .ok (.invokestatic 139, 3) := by decide +kernel
theorem dX8_handing_4 : decode cX8_handing 4 = .ok (.ifCond .eq 10, 3) := by decide +kernel
theorem dX8_handing_7 : decode cX8_handing 7 = .ok (.iload_n 2, 1) := by decide +kernel
theorem dX8_handing_8 : decode cX8_handing 8 = .ok (.invokestatic 142, 3) := by decide +kernel
theorem dX8_handing_11 : decode cX8_handing 11 = .ok (.ifCond .ne 6, 3) := by decide +kernel
theorem dX8_handing_14 : decode cX8_handing 14 = .ok (.bipush (-2), 2) := by decide +kernel
theorem dX8_handing_16 : decode cX8_handing 16 = .ok (.ireturn, 1) := by decide +kernel
theorem dX8_handing_17 : decode cX8_handing 17 = .ok (.aload_n 0, 1) := by decide +kernel
theorem dX8_handing_18 : decode cX8_handing 18 = .ok (.getfield 145, 3) := by decide +kernel
theorem dX8_handing_21 : decode cX8_handing 21 = .ok (.bipush 12, 2) := by decide +kernel
theorem dX8_handing_23 : decode cX8_handing 23 = .ok (.if_icmp .ne 6, 3) := by decide +kernel
theorem dX8_handing_26 : decode cX8_handing 26 = .ok (.bipush (-4), 2) := by decide +kernel
theorem dX8_handing_28 : decode cX8_handing 28 = .ok (.ireturn, 1) := by decide +kernel
theorem dX8_handing_29 : decode cX8_handing 29 = .ok (.aload_n 0, 1) := by decide +kernel
theorem dX8_handing_30 : decode cX8_handing 30 = .ok (.getfield 31, 3) := by decide +kernel
theorem dX8_handing_33 : decode cX8_handing 33 = .ok (.aload_n 0, 1) := by decide +kernel
theorem dX8_handing_34 : decode cX8_handing 34 = .ok (.getfield 145, 3) := by decide +kernel
theorem dX8_handing_37 : decode cX8_handing 37 = .ok (.iload_n 1, 1) := by decide +kernel
theorem dX8_handing_38 : decode cX8_handing 38 = .ok (.iastore, 1) := by decide +kernel
theorem dX8_handing_39 : decode cX8_handing 39 = .ok (.aload_n 0, 1) := by decide +kernel
theorem dX8_handing_40 : decode cX8_handing 40 = .ok (.getfield 34, 3) := by decide +kernel
theorem dX8_handing_43 : decode cX8_handing 43 = .ok (.aload_n 0, 1) := by decide +kernel
theorem dX8_handing_44 : decode cX8_handing 44 = .ok (.getfield 145, 3) := by decide +kernel
theorem dX8_handing_47 : decode cX8_handing 47 = .ok (.iload_n 2, 1) := by decide +kernel
theorem dX8_handing_48 : decode cX8_handing 48 = .ok (.iastore, 1) := by decide +kernel
theorem dX8_handing_49 : decode cX8_handing 49 = .ok (.aload_n 0, 1) := by decide +kernel
theorem dX8_handing_50 : decode cX8_handing 50 = .ok (.dup, 1) := by decide +kernel
theorem dX8_handing_51 : decode cX8_handing 51 = .ok (.getfield 145, 3) := by decide +kernel
theorem dX8_handing_54 : decode cX8_handing 54 = .ok (.iconst 1, 1) := by decide +kernel
theorem dX8_handing_55 : decode cX8_handing 55 = .ok (.iadd, 1) := by decide +kernel
theorem dX8_handing_56 : decode cX8_handing 56 = .ok (.putfield 145, 3) := by decide +kernel
theorem dX8_handing_59 : decode cX8_handing 59 = .ok (.aload_n 0, 1) := by decide +kernel
theorem dX8_handing_60 : decode cX8_handing 60 = .ok (.getfield 145, 3) := by decide +kernel
theorem dX8_handing_63 : decode cX8_handing 63 = .ok (.ireturn, 1) := by decide +kernel
theorem dX8_claim_0 : decode cX8_claim 0 = .ok (.iload_n 1, 1) := by decide +kernel
theorem dX8_claim_1 : decode cX8_claim 1 = .ok (.invokestatic 139, 3) := by decide +kernel
theorem dX8_claim_4 : decode cX8_claim 4 = .ok (.ifCond .eq 10, 3) := by decide +kernel
theorem dX8_claim_7 : decode cX8_claim 7 = .ok (.iload_n 2, 1) := by decide +kernel
theorem dX8_claim_8 : decode cX8_claim 8 = .ok (.invokestatic 142, 3) := by decide +kernel
theorem dX8_claim_11 : decode cX8_claim 11 = .ok (.ifCond .ne 6, 3) := by decide +kernel
theorem dX8_claim_14 : decode cX8_claim 14 = .ok (.bipush (-2), 2) := by decide +kernel
theorem dX8_claim_16 : decode cX8_claim 16 = .ok (.ireturn, 1) := by decide +kernel
theorem dX8_claim_17 : decode cX8_claim 17 = .ok (.aload_n 0, 1) := by decide +kernel
theorem dX8_claim_18 : decode cX8_claim 18 = .ok (.getfield 148, 3) := by decide +kernel
theorem dX8_claim_21 : decode cX8_claim 21 = .ok (.bipush 12, 2) := by decide +kernel
theorem dX8_claim_23 : decode cX8_claim 23 = .ok (.if_icmp .ne 6, 3) := by decide +kernel
theorem dX8_claim_26 : decode cX8_claim 26 = .ok (.bipush (-4), 2) := by decide +kernel
theorem dX8_claim_28 : decode cX8_claim 28 = .ok (.ireturn, 1) := by decide +kernel
theorem dX8_claim_29 : decode cX8_claim 29 = .ok (.aload_n 0, 1) := by decide +kernel
theorem dX8_claim_30 : decode cX8_claim 30 = .ok (.getfield 37, 3) := by decide +kernel
theorem dX8_claim_33 : decode cX8_claim 33 = .ok (.aload_n 0, 1) := by decide +kernel
theorem dX8_claim_34 : decode cX8_claim 34 = .ok (.getfield 148, 3) := by decide +kernel
theorem dX8_claim_37 : decode cX8_claim 37 = .ok (.iload_n 1, 1) := by decide +kernel
theorem dX8_claim_38 : decode cX8_claim 38 = .ok (.iastore, 1) := by decide +kernel
theorem dX8_claim_39 : decode cX8_claim 39 = .ok (.aload_n 0, 1) := by decide +kernel
theorem dX8_claim_40 : decode cX8_claim 40 = .ok (.getfield 40, 3) := by decide +kernel
theorem dX8_claim_43 : decode cX8_claim 43 = .ok (.aload_n 0, 1) := by decide +kernel
theorem dX8_claim_44 : decode cX8_claim 44 = .ok (.getfield 148, 3) := by decide +kernel
theorem dX8_claim_47 : decode cX8_claim 47 = .ok (.iload_n 2, 1) := by decide +kernel
theorem dX8_claim_48 : decode cX8_claim 48 = .ok (.iastore, 1) := by decide +kernel
theorem dX8_claim_49 : decode cX8_claim 49 = .ok (.aload_n 0, 1) := by decide +kernel
theorem dX8_claim_50 : decode cX8_claim 50 = .ok (.dup, 1) := by decide +kernel
theorem dX8_claim_51 : decode cX8_claim 51 = .ok (.getfield 148, 3) := by decide +kernel
theorem dX8_claim_54 : decode cX8_claim 54 = .ok (.iconst 1, 1) := by decide +kernel
theorem dX8_claim_55 : decode cX8_claim 55 = .ok (.iadd, 1) := by decide +kernel
theorem dX8_claim_56 : decode cX8_claim 56 = .ok (.putfield 148, 3) := by decide +kernel
theorem dX8_claim_59 : decode cX8_claim 59 = .ok (.aload_n 0, 1) := by decide +kernel
theorem dX8_claim_60 : decode cX8_claim 60 = .ok (.getfield 148, 3) := by decide +kernel
theorem dX8_claim_63 : decode cX8_claim 63 = .ok (.ireturn, 1) := by decide +kernel
theorem dX8_back_0 : decode cX8_back 0 = .ok (.iload_n 1, 1) := by decide +kernel
theorem dX8_back_1 : decode cX8_back 1 = .ok (.iconst 0, 1) := by decide +kernel
theorem dX8_back_2 : decode cX8_back 2 = .ok (.iconst 1, 1) := by decide +kernel
theorem dX8_back_3 : decode cX8_back 3 = .ok (.invokestatic 98, 3) := by decide +kernel
theorem dX8_back_6 : decode cX8_back 6 = .ok (.ifCond .ne 6, 3) := by decide +kernel
theorem dX8_back_9 : decode cX8_back 9 = .ok (.bipush (-2), 2) := by decide +kernel
theorem dX8_back_11 : decode cX8_back 11 = .ok (.ireturn, 1) := by decide +kernel
theorem dX8_back_12 : decode cX8_back 12 = .ok (.iload_n 1, 1) := by decide +kernel
theorem dX8_back_13 : decode cX8_back 13 = .ok (.ifCond .ne 10, 3) := by decide +kernel
theorem dX8_back_16 : decode cX8_back 16 = .ok (.aload_n 0, 1) := by decide +kernel
theorem dX8_back_17 : decode cX8_back 17 = .ok (.getfield 145, 3) := by decide +kernel
theorem dX8_back_20 : decode cX8_back 20 = .ok (.goto 7, 3) := by decide +kernel
theorem dX8_back_23 : decode cX8_back 23 = .ok (.aload_n 0, 1) := by decide +kernel
theorem dX8_back_24 : decode cX8_back 24 = .ok (.getfield 148, 3) := by decide +kernel
theorem dX8_back_27 : decode cX8_back 27 = .ok (.istore_n 2, 1) := by decide +kernel
theorem dX8_back_28 : decode cX8_back 28 = .ok (.iload_n 2, 1) := by decide +kernel
theorem dX8_back_29 : decode cX8_back 29 = .ok (.ifCond .ne 6, 3) := by decide +kernel
theorem dX8_back_32 : decode cX8_back 32 = .ok (.bipush (-3), 2) := by decide +kernel
theorem dX8_back_34 : decode cX8_back 34 = .ok (.ireturn, 1) := by decide +kernel
theorem dX8_back_35 : decode cX8_back 35 = .ok (.aload_n 0, 1) := by decide +kernel
theorem dX8_back_36 : decode cX8_back 36 = .ok (.dup, 1) := by decide +kernel
theorem dX8_back_37 : decode cX8_back 37 = .ok (.getfield 145, 3) := by decide +kernel
theorem dX8_back_40 : decode cX8_back 40 = .ok (.iload_n 1, 1) := by decide +kernel
theorem dX8_back_41 : decode cX8_back 41 = .ok (.ifCond .ne 7, 3) := by decide +kernel
theorem dX8_back_44 : decode cX8_back 44 = .ok (.iconst 1, 1) := by decide +kernel
theorem dX8_back_45 : decode cX8_back 45 = .ok (.goto 4, 3) := by decide +kernel
theorem dX8_back_48 : decode cX8_back 48 = .ok (.iconst 0, 1) := by decide +kernel
theorem dX8_back_49 : decode cX8_back 49 = .ok (.isub, 1) := by decide +kernel
theorem dX8_back_50 : decode cX8_back 50 = .ok (.putfield 145, 3) := by decide +kernel
theorem dX8_back_53 : decode cX8_back 53 = .ok (.aload_n 0, 1) := by decide +kernel
theorem dX8_back_54 : decode cX8_back 54 = .ok (.dup, 1) := by decide +kernel
theorem dX8_back_55 : decode cX8_back 55 = .ok (.getfield 148, 3) := by decide +kernel
theorem dX8_back_58 : decode cX8_back 58 = .ok (.iload_n 1, 1) := by decide +kernel
theorem dX8_back_59 : decode cX8_back 59 = .ok (.iconst 1, 1) := by decide +kernel
theorem dX8_back_60 : decode cX8_back 60 = .ok (.if_icmp .ne 7, 3) := by decide +kernel
theorem dX8_back_63 : decode cX8_back 63 = .ok (.iconst 1, 1) := by decide +kernel
theorem dX8_back_64 : decode cX8_back 64 = .ok (.goto 4, 3) := by decide +kernel
theorem dX8_back_67 : decode cX8_back 67 = .ok (.iconst 0, 1) := by decide +kernel
theorem dX8_back_68 : decode cX8_back 68 = .ok (.isub, 1) := by decide +kernel
theorem dX8_back_69 : decode cX8_back 69 = .ok (.putfield 148, 3) := by decide +kernel
theorem dX8_back_72 : decode cX8_back 72 = .ok (.iload_n 2, 1) := by decide +kernel
theorem dX8_back_73 : decode cX8_back 73 = .ok (.iconst 1, 1) := by decide +kernel
theorem dX8_back_74 : decode cX8_back 74 = .ok (.isub, 1) := by decide +kernel
theorem dX8_back_75 : decode cX8_back 75 = .ok (.ireturn, 1) := by decide +kernel
theorem dX8_read_0 : decode cX8_read 0 = .ok (.iload_n 1, 1) := by decide +kernel
theorem dX8_read_1 : decode cX8_read 1 = .ok (.invokestatic 151, 3) := by decide +kernel
theorem dX8_read_4 : decode cX8_read 4 = .ok (.ifCond .ne 6, 3) := by decide +kernel
theorem dX8_read_7 : decode cX8_read 7 = .ok (.bipush (-2), 2) := by decide +kernel
theorem dX8_read_9 : decode cX8_read 9 = .ok (.ireturn, 1) := by decide +kernel
theorem dX8_read_10 : decode cX8_read 10 = .ok (.aload_n 0, 1) := by decide +kernel
theorem dX8_read_11 : decode cX8_read 11 = .ok (.getfield 73, 3) := by decide +kernel
theorem dX8_read_14 : decode cX8_read 14 = .ok (.iload_n 1, 1) := by decide +kernel
theorem dX8_read_15 : decode cX8_read 15 = .ok (.baload, 1) := by decide +kernel
theorem dX8_read_16 : decode cX8_read 16 = .ok (.ifCond .ne 9, 3) := by decide +kernel
theorem dX8_read_19 : decode cX8_read 19 = .ok (.aload_n 0, 1) := by decide +kernel
theorem dX8_read_20 : decode cX8_read 20 = .ok (.iconst 1, 1) := by decide +kernel
theorem dX8_read_21 : decode cX8_read 21 = .ok (.invokevirtual 154, 3) := by decide +kernel
theorem dX8_read_24 : decode cX8_read 24 = .ok (.ireturn, 1) := by decide +kernel
theorem dX8_read_25 : decode cX8_read 25 = .ok (.iconst 0, 1) := by decide +kernel
theorem dX8_read_26 : decode cX8_read 26 = .ok (.istore_n 2, 1) := by decide +kernel
theorem dX8_read_27 : decode cX8_read 27 = .ok (.iconst 2, 1) := by decide +kernel
theorem dX8_read_28 : decode cX8_read 28 = .ok (.iload_n 2, 1) := by decide +kernel
theorem dX8_read_29 : decode cX8_read 29 = .ok (.imul, 1) := by decide +kernel
theorem dX8_read_30 : decode cX8_read 30 = .ok (.iconst 1, 1) := by decide +kernel
theorem dX8_read_31 : decode cX8_read 31 = .ok (.iadd, 1) := by decide +kernel
theorem dX8_read_32 : decode cX8_read 32 = .ok (.aload_n 0, 1) := by decide +kernel
theorem dX8_read_33 : decode cX8_read 33 = .ok (.getfield 80, 3) := by decide +kernel
theorem dX8_read_36 : decode cX8_read 36 = .ok (.iload_n 1, 1) := by decide +kernel
theorem dX8_read_37 : decode cX8_read 37 = .ok (.iaload, 1) := by decide +kernel
theorem dX8_read_38 : decode cX8_read 38 = .ok (.if_icmp .ge 44, 3) := by decide +kernel
theorem dX8_read_41 : decode cX8_read 41 = .ok (.aload_n 0, 1) := by decide +kernel
theorem dX8_read_42 : decode cX8_read 42 = .ok (.aload_n 0, 1) := by decide +kernel
theorem dX8_read_43 : decode cX8_read 43 = .ok (.getfield 83, 3) := by decide +kernel
theorem dX8_read_46 : decode cX8_read 46 = .ok (.bipush 48, 2) := by decide +kernel
theorem dX8_read_48 : decode cX8_read 48 = .ok (.iload_n 1, 1) := by decide +kernel
theorem dX8_read_49 : decode cX8_read 49 = .ok (.imul, 1) := by decide +kernel
theorem dX8_read_50 : decode cX8_read 50 = .ok (.iconst 2, 1) := by decide +kernel
theorem dX8_read_51 : decode cX8_read 51 = .ok (.iload_n 2, 1) := by decide +kernel
theorem dX8_read_52 : decode cX8_read 52 = .ok (.imul, 1) := by decide +kernel
theorem dX8_read_53 : decode cX8_read 53 = .ok (.iadd, 1) := by decide +kernel
theorem dX8_read_54 : decode cX8_read 54 = .ok (.iaload, 1) := by decide +kernel
theorem dX8_read_55 : decode cX8_read 55 = .ok (.aload_n 0, 1) := by decide +kernel
theorem dX8_read_56 : decode cX8_read 56 = .ok (.getfield 83, 3) := by decide +kernel
theorem dX8_read_59 : decode cX8_read 59 = .ok (.bipush 48, 2) := by decide +kernel
theorem dX8_read_61 : decode cX8_read 61 = .ok (.iload_n 1, 1) := by decide +kernel
theorem dX8_read_62 : decode cX8_read 62 = .ok (.imul, 1) := by decide +kernel
theorem dX8_read_63 : decode cX8_read 63 = .ok (.iconst 2, 1) := by decide +kernel
theorem dX8_read_64 : decode cX8_read 64 = .ok (.iload_n 2, 1) := by decide +kernel
theorem dX8_read_65 : decode cX8_read 65 = .ok (.imul, 1) := by decide +kernel
theorem dX8_read_66 : decode cX8_read 66 = .ok (.iadd, 1) := by decide +kernel
theorem dX8_read_67 : decode cX8_read 67 = .ok (.iconst 1, 1) := by decide +kernel
theorem dX8_read_68 : decode cX8_read 68 = .ok (.iadd, 1) := by decide +kernel
theorem dX8_read_69 : decode cX8_read 69 = .ok (.iaload, 1) := by decide +kernel
theorem dX8_read_70 : decode cX8_read 70 = .ok (.invokevirtual 157, 3) := by decide +kernel
theorem dX8_read_73 : decode cX8_read 73 = .ok (.ifCond .le 9, 3) := by decide +kernel
theorem dX8_read_76 : decode cX8_read 76 = .ok (.iinc 2 1, 3) := by decide +kernel
theorem dX8_read_79 : decode cX8_read 79 = .ok (.goto (-52), 3) := by decide +kernel
theorem dX8_read_82 : decode cX8_read 82 = .ok (.iload_n 2, 1) := by decide +kernel
theorem dX8_read_83 : decode cX8_read 83 = .ok (.ireturn, 1) := by decide +kernel
theorem dX8_fits_0 : decode cX8_fits 0 = .ok (.aload_n 0, 1) := by decide +kernel
theorem dX8_fits_1 : decode cX8_fits 1 = .ok (.getfield 16, 3) := by decide +kernel
theorem dX8_fits_4 : decode cX8_fits 4 = .ok (.iload_n 2, 1) := by decide +kernel
theorem dX8_fits_5 : decode cX8_fits 5 = .ok (.iaload, 1) := by decide +kernel
theorem dX8_fits_6 : decode cX8_fits 6 = .ok (.aload_n 0, 1) := by decide +kernel
theorem dX8_fits_7 : decode cX8_fits 7 = .ok (.getfield 25, 3) := by decide +kernel
theorem dX8_fits_10 : decode cX8_fits 10 = .ok (.iload_n 1, 1) := by decide +kernel
theorem dX8_fits_11 : decode cX8_fits 11 = .ok (.iaload, 1) := by decide +kernel
theorem dX8_fits_12 : decode cX8_fits 12 = .ok (.ixor, 1) := by decide +kernel
theorem dX8_fits_13 : decode cX8_fits 13 = .ok (.aload_n 0, 1) := by decide +kernel
theorem dX8_fits_14 : decode cX8_fits 14 = .ok (.getfield 22, 3) := by decide +kernel
theorem dX8_fits_17 : decode cX8_fits 17 = .ok (.iload_n 1, 1) := by decide +kernel
theorem dX8_fits_18 : decode cX8_fits 18 = .ok (.iaload, 1) := by decide +kernel
theorem dX8_fits_19 : decode cX8_fits 19 = .ok (.iand, 1) := by decide +kernel
theorem dX8_fits_20 : decode cX8_fits 20 = .ok (.ifCond .ne 7, 3) := by decide +kernel
theorem dX8_fits_23 : decode cX8_fits 23 = .ok (.iconst 1, 1) := by decide +kernel
theorem dX8_fits_24 : decode cX8_fits 24 = .ok (.goto 4, 3) := by decide +kernel
theorem dX8_fits_27 : decode cX8_fits 27 = .ok (.iconst 0, 1) := by decide +kernel
theorem dX8_fits_28 : decode cX8_fits 28 = .ok (.ireturn, 1) := by decide +kernel
theorem dX8_givenTo_0 : decode cX8_givenTo 0 = .ok (.iconst (-1), 1) := by decide +kernel
theorem dX8_givenTo_1 : decode cX8_givenTo 1 = .ok (.istore_n 2, 1) := by decide +kernel
theorem dX8_givenTo_2 : decode cX8_givenTo 2 = .ok (.iconst 0, 1) := by decide +kernel
theorem dX8_givenTo_3 : decode cX8_givenTo 3 = .ok (.istore_n 3, 1) := by decide +kernel
theorem dX8_givenTo_4 : decode cX8_givenTo 4 = .ok (.iload_n 3, 1) := by decide +kernel
theorem dX8_givenTo_5 : decode cX8_givenTo 5 = .ok (.aload_n 0, 1) := by decide +kernel
theorem dX8_givenTo_6 : decode cX8_givenTo 6 = .ok (.getfield 106, 3) := by decide +kernel
theorem dX8_givenTo_9 : decode cX8_givenTo 9 = .ok (.if_icmp .ge 76, 3) := by decide +kernel
theorem dX8_givenTo_12 : decode cX8_givenTo 12 = .ok (.aload_n 0, 1) := by decide +kernel
theorem dX8_givenTo_13 : decode cX8_givenTo 13 = .ok (.getfield 43, 3) := by decide +kernel
theorem dX8_givenTo_16 : decode cX8_givenTo 16 = .ok (.iload_n 3, 1) := by decide +kernel
theorem dX8_givenTo_17 : decode cX8_givenTo 17 = .ok (.iaload, 1) := by decide +kernel
theorem dX8_givenTo_18 : decode cX8_givenTo 18 = .ok (.iconst (-1), 1) := by decide +kernel
theorem dX8_givenTo_19 : decode cX8_givenTo 19 = .ok (.if_icmp .eq 26, 3) := by decide +kernel
theorem dX8_givenTo_22 : decode cX8_givenTo 22 = .ok (.aload_n 0, 1) := by decide +kernel
theorem dX8_givenTo_23 : decode cX8_givenTo 23 = .ok (.getfield 46, 3) := by decide +kernel
theorem dX8_givenTo_26 : decode cX8_givenTo 26 = .ok (.iload_n 3, 1) := by decide +kernel
theorem dX8_givenTo_27 : decode cX8_givenTo 27 = .ok (.iaload, 1) := by decide +kernel
theorem dX8_givenTo_28 : decode cX8_givenTo 28 = .ok (.iconst (-1), 1) := by decide +kernel
theorem dX8_givenTo_29 : decode cX8_givenTo 29 = .ok (.if_icmp .ne 16, 3) := by decide +kernel
theorem dX8_givenTo_32 : decode cX8_givenTo 32 = .ok (.aload_n 0, 1) := by decide +kernel
theorem dX8_givenTo_33 : decode cX8_givenTo 33 = .ok (.iload_n 1, 1) := by decide +kernel
theorem dX8_givenTo_34 : decode cX8_givenTo 34 = .ok (.iload_n 3, 1) := by decide +kernel
theorem dX8_givenTo_35 : decode cX8_givenTo 35 = .ok (.invokevirtual 160, 3) := by decide +kernel
theorem dX8_givenTo_38 : decode cX8_givenTo 38 = .ok (.ifCond .eq 7, 3) := by decide +kernel
theorem dX8_givenTo_41 : decode cX8_givenTo 41 = .ok (.iconst 1, 1) := by decide +kernel
theorem dX8_givenTo_42 : decode cX8_givenTo 42 = .ok (.goto 4, 3) := by decide +kernel
theorem dX8_givenTo_45 : decode cX8_givenTo 45 = .ok (.iconst 0, 1) := by decide +kernel
theorem dX8_givenTo_46 : decode cX8_givenTo 46 = .ok (.istore 4, 2) := by decide +kernel
theorem dX8_givenTo_48 : decode cX8_givenTo 48 = .ok (.iload 4, 2) := by decide +kernel
theorem dX8_givenTo_50 : decode cX8_givenTo 50 = .ok (.ifCond .eq 27, 3) := by decide +kernel
theorem dX8_givenTo_53 : decode cX8_givenTo 53 = .ok (.iload_n 2, 1) := by decide +kernel
theorem dX8_givenTo_54 : decode cX8_givenTo 54 = .ok (.iconst (-1), 1) := by decide +kernel
theorem dX8_givenTo_55 : decode cX8_givenTo 55 = .ok (.if_icmp .eq 18, 3) := by decide +kernel
theorem dX8_givenTo_58 : decode cX8_givenTo 58 = .ok (.aload_n 0, 1) := by decide +kernel
theorem dX8_givenTo_59 : decode cX8_givenTo 59 = .ok (.getfield 19, 3) := by decide +kernel
theorem dX8_givenTo_62 : decode cX8_givenTo 62 = .ok (.iload_n 3, 1) := by decide +kernel
theorem dX8_givenTo_63 : decode cX8_givenTo 63 = .ok (.iaload, 1) := by decide +kernel
theorem dX8_givenTo_64 : decode cX8_givenTo 64 = .ok (.aload_n 0, 1) := by decide +kernel
theorem dX8_givenTo_65 : decode cX8_givenTo 65 = .ok (.getfield 19, 3) := by decide +kernel
theorem dX8_givenTo_68 : decode cX8_givenTo 68 = .ok (.iload_n 2, 1) := by decide +kernel
theorem dX8_givenTo_69 : decode cX8_givenTo 69 = .ok (.iaload, 1) := by decide +kernel
theorem dX8_givenTo_70 : decode cX8_givenTo 70 = .ok (.if_icmp .ge 7, 3) := by decide +kernel
theorem dX8_givenTo_73 : decode cX8_givenTo 73 = .ok (.iload_n 3, 1) := by decide +kernel
theorem dX8_givenTo_74 : decode cX8_givenTo 74 = .ok (.goto 4, 3) := by decide +kernel
theorem dX8_givenTo_77 : decode cX8_givenTo 77 = .ok (.iload_n 2, 1) := by decide +kernel
theorem dX8_givenTo_78 : decode cX8_givenTo 78 = .ok (.istore_n 2, 1) := by decide +kernel
theorem dX8_givenTo_79 : decode cX8_givenTo 79 = .ok (.iinc 3 1, 3) := by decide +kernel
theorem dX8_givenTo_82 : decode cX8_givenTo 82 = .ok (.goto (-78), 3) := by decide +kernel
theorem dX8_givenTo_85 : decode cX8_givenTo 85 = .ok (.aload_n 0, 1) := by decide +kernel
theorem dX8_givenTo_86 : decode cX8_givenTo 86 = .ok (.getfield 22, 3) := by decide +kernel
theorem dX8_givenTo_89 : decode cX8_givenTo 89 = .ok (.iload_n 1, 1) := by decide +kernel
theorem dX8_givenTo_90 : decode cX8_givenTo 90 = .ok (.iaload, 1) := by decide +kernel
theorem dX8_givenTo_91 : decode cX8_givenTo 91 = .ok (.invokestatic 164, 3) := by decide +kernel
theorem dX8_givenTo_94 : decode cX8_givenTo 94 = .ok (.aload_n 0, 1) := by decide +kernel
theorem dX8_givenTo_95 : decode cX8_givenTo 95 = .ok (.getfield 89, 3) := by decide +kernel
theorem dX8_givenTo_98 : decode cX8_givenTo 98 = .ok (.if_icmp .lt 7, 3) := by decide +kernel
theorem dX8_givenTo_101 : decode cX8_givenTo 101 = .ok (.iload_n 2, 1) := by decide +kernel
theorem dX8_givenTo_102 : decode cX8_givenTo 102 = .ok (.goto 4, 3) := by decide +kernel
theorem dX8_givenTo_105 : decode cX8_givenTo 105 = .ok (.iconst (-1), 1) := by decide +kernel
theorem dX8_givenTo_106 : decode cX8_givenTo 106 = .ok (.ireturn, 1) := by decide +kernel
theorem dX8_fitsGone_0 : decode cX8_fitsGone 0 = .ok (.iconst 0, 1) := by decide +kernel
theorem dX8_fitsGone_1 : decode cX8_fitsGone 1 = .ok (.istore_n 2, 1) := by decide +kernel
theorem dX8_fitsGone_2 : decode cX8_fitsGone 2 = .ok (.iconst 0, 1) := by decide +kernel
theorem dX8_fitsGone_3 : decode cX8_fitsGone 3 = .ok (.istore_n 3, 1) := by decide +kernel
theorem dX8_fitsGone_4 : decode cX8_fitsGone 4 = .ok (.iload_n 3, 1) := by decide +kernel
theorem dX8_fitsGone_5 : decode cX8_fitsGone 5 = .ok (.aload_n 0, 1) := by decide +kernel
theorem dX8_fitsGone_6 : decode cX8_fitsGone 6 = .ok (.getfield 106, 3) := by decide +kernel
theorem dX8_fitsGone_9 : decode cX8_fitsGone 9 = .ok (.if_icmp .ge 38, 3) := by decide +kernel
theorem dX8_fitsGone_12 : decode cX8_fitsGone 12 = .ok (.iload_n 2, 1) := by decide +kernel
theorem dX8_fitsGone_13 : decode cX8_fitsGone 13 = .ok (.ifCond .ne 22, 3) := by decide +kernel
theorem dX8_fitsGone_16 : decode cX8_fitsGone 16 = .ok (.aload_n 0, 1) := by decide +kernel
theorem dX8_fitsGone_17 : decode cX8_fitsGone 17 = .ok (.getfield 46, 3) := by decide +kernel
theorem dX8_fitsGone_20 : decode cX8_fitsGone 20 = .ok (.iload_n 3, 1) := by decide +kernel
theorem dX8_fitsGone_21 : decode cX8_fitsGone 21 = .ok (.iaload, 1) := by decide +kernel
theorem dX8_fitsGone_22 : decode cX8_fitsGone 22 = .ok (.iconst (-1), 1) := by decide +kernel
theorem dX8_fitsGone_23 : decode cX8_fitsGone 23 = .ok (.if_icmp .eq 16, 3) := by decide +kernel
theorem dX8_fitsGone_26 : decode cX8_fitsGone 26 = .ok (.aload_n 0, 1) := by decide +kernel
theorem dX8_fitsGone_27 : decode cX8_fitsGone 27 = .ok (.iload_n 1, 1) := by decide +kernel
theorem dX8_fitsGone_28 : decode cX8_fitsGone 28 = .ok (.iload_n 3, 1) := by decide +kernel
theorem dX8_fitsGone_29 : decode cX8_fitsGone 29 = .ok (.invokevirtual 160, 3) := by decide +kernel
theorem dX8_fitsGone_32 : decode cX8_fitsGone 32 = .ok (.ifCond .eq 7, 3) := by decide +kernel
theorem dX8_fitsGone_35 : decode cX8_fitsGone 35 = .ok (.iconst 1, 1) := by decide +kernel
theorem dX8_fitsGone_36 : decode cX8_fitsGone 36 = .ok (.goto 4, 3) := by decide +kernel
theorem dX8_fitsGone_39 : decode cX8_fitsGone 39 = .ok (.iconst 0, 1) := by decide +kernel
theorem dX8_fitsGone_40 : decode cX8_fitsGone 40 = .ok (.istore_n 2, 1) := by decide +kernel
theorem dX8_fitsGone_41 : decode cX8_fitsGone 41 = .ok (.iinc 3 1, 3) := by decide +kernel
theorem dX8_fitsGone_44 : decode cX8_fitsGone 44 = .ok (.goto (-40), 3) := by decide +kernel
theorem dX8_fitsGone_47 : decode cX8_fitsGone 47 = .ok (.iload_n 2, 1) := by decide +kernel
theorem dX8_fitsGone_48 : decode cX8_fitsGone 48 = .ok (.ireturn, 1) := by decide +kernel
theorem dX8_comes_0 : decode cX8_comes 0 = .ok (.aload_n 0, 1) := by decide +kernel
theorem dX8_comes_1 : decode cX8_comes 1 = .ok (.getfield 40, 3) := by decide +kernel
theorem dX8_comes_4 : decode cX8_comes 4 = .ok (.iload_n 1, 1) := by decide +kernel
theorem dX8_comes_5 : decode cX8_comes 5 = .ok (.iaload, 1) := by decide +kernel
theorem dX8_comes_6 : decode cX8_comes 6 = .ok (.istore_n 3, 1) := by decide +kernel
theorem dX8_comes_7 : decode cX8_comes 7 = .ok (.iload_n 3, 1) := by decide +kernel
theorem dX8_comes_8 : decode cX8_comes 8 = .ok (.aload_n 0, 1) := by decide +kernel
theorem dX8_comes_9 : decode cX8_comes 9 = .ok (.getfield 109, 3) := by decide +kernel
theorem dX8_comes_12 : decode cX8_comes 12 = .ok (.if_icmp .ge 11, 3) := by decide +kernel
theorem dX8_comes_15 : decode cX8_comes 15 = .ok (.aload_n 0, 1) := by decide +kernel
theorem dX8_comes_16 : decode cX8_comes 16 = .ok (.iload_n 3, 1) := by decide +kernel
theorem dX8_comes_17 : decode cX8_comes 17 = .ok (.invokevirtual 167, 3) := by decide +kernel
theorem dX8_comes_20 : decode cX8_comes 20 = .ok (.goto 4, 3) := by decide +kernel
theorem dX8_comes_23 : decode cX8_comes 23 = .ok (.iconst (-1), 1) := by decide +kernel
theorem dX8_comes_24 : decode cX8_comes 24 = .ok (.istore 4, 2) := by decide +kernel
theorem dX8_comes_26 : decode cX8_comes 26 = .ok (.iload 4, 2) := by decide +kernel
theorem dX8_comes_28 : decode cX8_comes 28 = .ok (.iconst (-1), 1) := by decide +kernel
theorem dX8_comes_29 : decode cX8_comes 29 = .ok (.if_icmp .eq 42, 3) := by decide +kernel
theorem dX8_comes_32 : decode cX8_comes 32 = .ok (.aload_n 0, 1) := by decide +kernel
theorem dX8_comes_33 : decode cX8_comes 33 = .ok (.getfield 46, 3) := by decide +kernel
theorem dX8_comes_36 : decode cX8_comes 36 = .ok (.iload 4, 2) := by decide +kernel
theorem dX8_comes_38 : decode cX8_comes 38 = .ok (.iload_n 2, 1) := by decide +kernel
theorem dX8_comes_39 : decode cX8_comes 39 = .ok (.iastore, 1) := by decide +kernel
theorem dX8_comes_40 : decode cX8_comes 40 = .ok (.aload_n 0, 1) := by decide +kernel
theorem dX8_comes_41 : decode cX8_comes 41 = .ok (.getfield 49, 3) := by decide +kernel
theorem dX8_comes_44 : decode cX8_comes 44 = .ok (.iload 4, 2) := by decide +kernel
theorem dX8_comes_46 : decode cX8_comes 46 = .ok (.iload_n 3, 1) := by decide +kernel
theorem dX8_comes_47 : decode cX8_comes 47 = .ok (.iastore, 1) := by decide +kernel
theorem dX8_comes_48 : decode cX8_comes 48 = .ok (.iload_n 1, 1) := by decide +kernel
theorem dX8_comes_49 : decode cX8_comes 49 = .ok (.bipush 12, 2) := by decide +kernel
theorem dX8_comes_51 : decode cX8_comes 51 = .ok (.if_icmp .ge 49, 3) := by decide +kernel
theorem dX8_comes_54 : decode cX8_comes 54 = .ok (.aload_n 0, 1) := by decide +kernel
theorem dX8_comes_55 : decode cX8_comes 55 = .ok (.dup, 1) := by decide +kernel
theorem dX8_comes_56 : decode cX8_comes 56 = .ok (.getfield 170, 3) := by decide +kernel
theorem dX8_comes_59 : decode cX8_comes 59 = .ok (.iconst 1, 1) := by decide +kernel
theorem dX8_comes_60 : decode cX8_comes 60 = .ok (.iload_n 1, 1) := by decide +kernel
theorem dX8_comes_61 : decode cX8_comes 61 = .ok (.ishl, 1) := by decide +kernel
theorem dX8_comes_62 : decode cX8_comes 62 = .ok (.iconst (-1), 1) := by decide +kernel
theorem dX8_comes_63 : decode cX8_comes 63 = .ok (.ixor, 1) := by decide +kernel
theorem dX8_comes_64 : decode cX8_comes 64 = .ok (.iand, 1) := by decide +kernel
theorem dX8_comes_65 : decode cX8_comes 65 = .ok (.putfield 170, 3) := by decide +kernel
theorem dX8_comes_68 : decode cX8_comes 68 = .ok (.goto 32, 3) := by decide +kernel
theorem dX8_comes_71 : decode cX8_comes 71 = .ok (.iload_n 3, 1) := by decide +kernel
theorem dX8_comes_72 : decode cX8_comes 72 = .ok (.aload_n 0, 1) := by decide +kernel
theorem dX8_comes_73 : decode cX8_comes 73 = .ok (.getfield 109, 3) := by decide +kernel
theorem dX8_comes_76 : decode cX8_comes 76 = .ok (.if_icmp .ge 24, 3) := by decide +kernel
theorem dX8_comes_79 : decode cX8_comes 79 = .ok (.aload_n 0, 1) := by decide +kernel
theorem dX8_comes_80 : decode cX8_comes 80 = .ok (.getfield 173, 3) := by decide +kernel
theorem dX8_comes_83 : decode cX8_comes 83 = .ok (.iconst (-1), 1) := by decide +kernel
theorem dX8_comes_84 : decode cX8_comes 84 = .ok (.if_icmp .ne 16, 3) := by decide +kernel
theorem dX8_comes_87 : decode cX8_comes 87 = .ok (.aload_n 0, 1) := by decide +kernel
theorem dX8_comes_88 : decode cX8_comes 88 = .ok (.iload_n 3, 1) := by decide +kernel
theorem dX8_comes_89 : decode cX8_comes 89 = .ok (.invokevirtual 176, 3) := by decide +kernel
theorem dX8_comes_92 : decode cX8_comes 92 = .ok (.ifCond .eq 8, 3) := by decide +kernel
theorem dX8_comes_95 : decode cX8_comes 95 = .ok (.aload_n 0, 1) := by decide +kernel
theorem dX8_comes_96 : decode cX8_comes 96 = .ok (.iload_n 1, 1) := by decide +kernel
theorem dX8_comes_97 : decode cX8_comes 97 = .ok (.putfield 173, 3) := by decide +kernel
theorem dX8_comes_100 : decode cX8_comes 100 = .ok (.return_, 1) := by decide +kernel
theorem dX8_runs_0 : decode cX8_runs 0 = .ok (.iconst 0, 1) := by decide +kernel
theorem dX8_runs_1 : decode cX8_runs 1 = .ok (.istore 4, 2) := by decide +kernel
theorem dX8_runs_3 : decode cX8_runs 3 = .ok (.iload 4, 2) := by decide +kernel
theorem dX8_runs_5 : decode cX8_runs 5 = .ok (.bipush 8, 2) := by decide +kernel
theorem dX8_runs_7 : decode cX8_runs 7 = .ok (.if_icmp .ge 33, 3) := by decide +kernel
theorem dX8_runs_10 : decode cX8_runs 10 = .ok (.aload_n 0, 1) := by decide +kernel
theorem dX8_runs_11 : decode cX8_runs 11 = .ok (.getfield 43, 3) := by decide +kernel
theorem dX8_runs_14 : decode cX8_runs 14 = .ok (.iload 4, 2) := by decide +kernel
theorem dX8_runs_16 : decode cX8_runs 16 = .ok (.iconst (-1), 1) := by decide +kernel
theorem dX8_runs_17 : decode cX8_runs 17 = .ok (.iastore, 1) := by decide +kernel
theorem dX8_runs_18 : decode cX8_runs 18 = .ok (.aload_n 0, 1) := by decide +kernel
theorem dX8_runs_19 : decode cX8_runs 19 = .ok (.getfield 46, 3) := by decide +kernel
theorem dX8_runs_22 : decode cX8_runs 22 = .ok (.iload 4, 2) := by decide +kernel
theorem dX8_runs_24 : decode cX8_runs 24 = .ok (.iconst (-1), 1) := by decide +kernel
theorem dX8_runs_25 : decode cX8_runs 25 = .ok (.iastore, 1) := by decide +kernel
theorem dX8_runs_26 : decode cX8_runs 26 = .ok (.aload_n 0, 1) := by decide +kernel
theorem dX8_runs_27 : decode cX8_runs 27 = .ok (.getfield 49, 3) := by decide +kernel
theorem dX8_runs_30 : decode cX8_runs 30 = .ok (.iload 4, 2) := by decide +kernel
theorem dX8_runs_32 : decode cX8_runs 32 = .ok (.iconst (-1), 1) := by decide +kernel
theorem dX8_runs_33 : decode cX8_runs 33 = .ok (.iastore, 1) := by decide +kernel
theorem dX8_runs_34 : decode cX8_runs 34 = .ok (.iinc 4 1, 3) := by decide +kernel
theorem dX8_runs_37 : decode cX8_runs 37 = .ok (.goto (-34), 3) := by decide +kernel
theorem dX8_runs_40 : decode cX8_runs 40 = .ok (.aload_n 0, 1) := by decide +kernel
theorem dX8_runs_41 : decode cX8_runs 41 = .ok (.iconst 1, 1) := by decide +kernel
theorem dX8_runs_42 : decode cX8_runs 42 = .ok (.iload_n 3, 1) := by decide +kernel
theorem dX8_runs_43 : decode cX8_runs 43 = .ok (.bipush 12, 2) := by decide +kernel
theorem dX8_runs_45 : decode cX8_runs 45 = .ok (.if_icmp .ge 7, 3) := by decide +kernel
theorem dX8_runs_48 : decode cX8_runs 48 = .ok (.iload_n 3, 1) := by decide +kernel
theorem dX8_runs_49 : decode cX8_runs 49 = .ok (.goto 5, 3) := by decide +kernel
theorem dX8_runs_52 : decode cX8_runs 52 = .ok (.bipush 12, 2) := by decide +kernel
theorem dX8_runs_54 : decode cX8_runs 54 = .ok (.ishl, 1) := by decide +kernel
theorem dX8_runs_55 : decode cX8_runs 55 = .ok (.iconst 1, 1) := by decide +kernel
theorem dX8_runs_56 : decode cX8_runs 56 = .ok (.isub, 1) := by decide +kernel
theorem dX8_runs_57 : decode cX8_runs 57 = .ok (.putfield 170, 3) := by decide +kernel
theorem dX8_runs_60 : decode cX8_runs 60 = .ok (.aload_n 0, 1) := by decide +kernel
theorem dX8_runs_61 : decode cX8_runs 61 = .ok (.iconst (-1), 1) := by decide +kernel
theorem dX8_runs_62 : decode cX8_runs 62 = .ok (.putfield 173, 3) := by decide +kernel
theorem dX8_runs_65 : decode cX8_runs 65 = .ok (.iconst 0, 1) := by decide +kernel
theorem dX8_runs_66 : decode cX8_runs 66 = .ok (.istore 4, 2) := by decide +kernel
theorem dX8_runs_68 : decode cX8_runs 68 = .ok (.iload 4, 2) := by decide +kernel
theorem dX8_runs_70 : decode cX8_runs 70 = .ok (.iload_n 1, 1) := by decide +kernel
theorem dX8_runs_71 : decode cX8_runs 71 = .ok (.if_icmp .gt 281, 3) := by decide +kernel
theorem dX8_runs_74 : decode cX8_runs 74 = .ok (.iconst 0, 1) := by decide +kernel
theorem dX8_runs_75 : decode cX8_runs 75 = .ok (.istore 5, 2) := by decide +kernel
theorem dX8_runs_77 : decode cX8_runs 77 = .ok (.iload 5, 2) := by decide +kernel
theorem dX8_runs_79 : decode cX8_runs 79 = .ok (.iload_n 2, 1) := by decide +kernel
theorem dX8_runs_80 : decode cX8_runs 80 = .ok (.if_icmp .ge 69, 3) := by decide +kernel
theorem dX8_runs_83 : decode cX8_runs 83 = .ok (.aload_n 0, 1) := by decide +kernel
theorem dX8_runs_84 : decode cX8_runs 84 = .ok (.getfield 34, 3) := by decide +kernel
theorem dX8_runs_87 : decode cX8_runs 87 = .ok (.iload 5, 2) := by decide +kernel
theorem dX8_runs_89 : decode cX8_runs 89 = .ok (.iaload, 1) := by decide +kernel
theorem dX8_runs_90 : decode cX8_runs 90 = .ok (.istore 6, 2) := by decide +kernel
theorem dX8_runs_92 : decode cX8_runs 92 = .ok (.aload_n 0, 1) := by decide +kernel
theorem dX8_runs_93 : decode cX8_runs 93 = .ok (.getfield 43, 3) := by decide +kernel
theorem dX8_runs_96 : decode cX8_runs 96 = .ok (.iload 6, 2) := by decide +kernel
theorem dX8_runs_98 : decode cX8_runs 98 = .ok (.aload_n 0, 1) := by decide +kernel
theorem dX8_runs_99 : decode cX8_runs 99 = .ok (.getfield 31, 3) := by decide +kernel
theorem dX8_runs_102 : decode cX8_runs 102 = .ok (.iload 5, 2) := by decide +kernel
theorem dX8_runs_104 : decode cX8_runs 104 = .ok (.iaload, 1) := by decide +kernel
theorem dX8_runs_105 : decode cX8_runs 105 = .ok (.iload 4, 2) := by decide +kernel
theorem dX8_runs_107 : decode cX8_runs 107 = .ok (.if_icmp .ne 28, 3) := by decide +kernel
theorem dX8_runs_110 : decode cX8_runs 110 = .ok (.iload 6, 2) := by decide +kernel
theorem dX8_runs_112 : decode cX8_runs 112 = .ok (.aload_n 0, 1) := by decide +kernel
theorem dX8_runs_113 : decode cX8_runs 113 = .ok (.getfield 106, 3) := by decide +kernel
theorem dX8_runs_116 : decode cX8_runs 116 = .ok (.if_icmp .ge 19, 3) := by decide +kernel
theorem dX8_runs_119 : decode cX8_runs 119 = .ok (.aload_n 0, 1) := by decide +kernel
theorem dX8_runs_120 : decode cX8_runs 120 = .ok (.getfield 43, 3) := by decide +kernel
theorem dX8_runs_123 : decode cX8_runs 123 = .ok (.iload 6, 2) := by decide +kernel
theorem dX8_runs_125 : decode cX8_runs 125 = .ok (.iaload, 1) := by decide +kernel
theorem dX8_runs_126 : decode cX8_runs 126 = .ok (.iconst (-1), 1) := by decide +kernel
theorem dX8_runs_127 : decode cX8_runs 127 = .ok (.if_icmp .ne 8, 3) := by decide +kernel
theorem dX8_runs_130 : decode cX8_runs 130 = .ok (.iload 4, 2) := by decide +kernel
theorem dX8_runs_132 : decode cX8_runs 132 = .ok (.goto 10, 3) := by decide +kernel
theorem dX8_runs_135 : decode cX8_runs 135 = .ok (.aload_n 0, 1) := by decide +kernel
theorem dX8_runs_136 : decode cX8_runs 136 = .ok (.getfield 43, 3) := by decide +kernel
theorem dX8_runs_139 : decode cX8_runs 139 = .ok (.iload 6, 2) := by decide +kernel
theorem dX8_runs_141 : decode cX8_runs 141 = .ok (.iaload, 1) := by decide +kernel
theorem dX8_runs_142 : decode cX8_runs 142 = .ok (.iastore, 1) := by decide +kernel
theorem dX8_runs_143 : decode cX8_runs 143 = .ok (.iinc 5 1, 3) := by decide +kernel
theorem dX8_runs_146 : decode cX8_runs 146 = .ok (.goto (-69), 3) := by decide +kernel
theorem dX8_runs_149 : decode cX8_runs 149 = .ok (.iconst 0, 1) := by decide +kernel
theorem dX8_runs_150 : decode cX8_runs 150 = .ok (.istore 5, 2) := by decide +kernel
theorem dX8_runs_152 : decode cX8_runs 152 = .ok (.iload 5, 2) := by decide +kernel
theorem dX8_runs_154 : decode cX8_runs 154 = .ok (.bipush 10, 2) := by decide +kernel
theorem dX8_runs_156 : decode cX8_runs 156 = .ok (.if_icmp .ge 100, 3) := by decide +kernel
theorem dX8_runs_159 : decode cX8_runs 159 = .ok (.iconst 0, 1) := by decide +kernel
theorem dX8_runs_160 : decode cX8_runs 160 = .ok (.istore 6, 2) := by decide +kernel
theorem dX8_runs_162 : decode cX8_runs 162 = .ok (.iload 6, 2) := by decide +kernel
theorem dX8_runs_164 : decode cX8_runs 164 = .ok (.iload_n 3, 1) := by decide +kernel
theorem dX8_runs_165 : decode cX8_runs 165 = .ok (.if_icmp .ge 85, 3) := by decide +kernel
theorem dX8_runs_168 : decode cX8_runs 168 = .ok (.aload_n 0, 1) := by decide +kernel
theorem dX8_runs_169 : decode cX8_runs 169 = .ok (.getfield 40, 3) := by decide +kernel
theorem dX8_runs_172 : decode cX8_runs 172 = .ok (.iload 6, 2) := by decide +kernel
theorem dX8_runs_174 : decode cX8_runs 174 = .ok (.iaload, 1) := by decide +kernel
theorem dX8_runs_175 : decode cX8_runs 175 = .ok (.aload_n 0, 1) := by decide +kernel
theorem dX8_runs_176 : decode cX8_runs 176 = .ok (.getfield 109, 3) := by decide +kernel
theorem dX8_runs_179 : decode cX8_runs 179 = .ok (.if_icmp .ge 28, 3) := by decide +kernel
theorem dX8_runs_182 : decode cX8_runs 182 = .ok (.aload_n 0, 1) := by decide +kernel
theorem dX8_runs_183 : decode cX8_runs 183 = .ok (.getfield 28, 3) := by decide +kernel
theorem dX8_runs_186 : decode cX8_runs 186 = .ok (.aload_n 0, 1) := by decide +kernel
theorem dX8_runs_187 : decode cX8_runs 187 = .ok (.getfield 40, 3) := by decide +kernel
theorem dX8_runs_190 : decode cX8_runs 190 = .ok (.iload 6, 2) := by decide +kernel
theorem dX8_runs_192 : decode cX8_runs 192 = .ok (.iaload, 1) := by decide +kernel
theorem dX8_runs_193 : decode cX8_runs 193 = .ok (.iaload, 1) := by decide +kernel
theorem dX8_runs_194 : decode cX8_runs 194 = .ok (.iload 5, 2) := by decide +kernel
theorem dX8_runs_196 : decode cX8_runs 196 = .ok (.if_icmp .ne 7, 3) := by decide +kernel
theorem dX8_runs_199 : decode cX8_runs 199 = .ok (.iconst 1, 1) := by decide +kernel
theorem dX8_runs_200 : decode cX8_runs 200 = .ok (.goto 17, 3) := by decide +kernel
theorem dX8_runs_203 : decode cX8_runs 203 = .ok (.iconst 0, 1) := by decide +kernel
theorem dX8_runs_204 : decode cX8_runs 204 = .ok (.goto 13, 3) := by decide +kernel
theorem dX8_runs_207 : decode cX8_runs 207 = .ok (.iload 5, 2) := by decide +kernel
theorem dX8_runs_209 : decode cX8_runs 209 = .ok (.ifCond .ne 7, 3) := by decide +kernel
theorem dX8_runs_212 : decode cX8_runs 212 = .ok (.iconst 1, 1) := by decide +kernel
theorem dX8_runs_213 : decode cX8_runs 213 = .ok (.goto 4, 3) := by decide +kernel
theorem dX8_runs_216 : decode cX8_runs 216 = .ok (.iconst 0, 1) := by decide +kernel
theorem dX8_runs_217 : decode cX8_runs 217 = .ok (.istore 7, 2) := by decide +kernel
theorem dX8_runs_219 : decode cX8_runs 219 = .ok (.aload_n 0, 1) := by decide +kernel
theorem dX8_runs_220 : decode cX8_runs 220 = .ok (.getfield 37, 3) := by decide +kernel
theorem dX8_runs_223 : decode cX8_runs 223 = .ok (.iload 6, 2) := by decide +kernel
theorem dX8_runs_225 : decode cX8_runs 225 = .ok (.iaload, 1) := by decide +kernel
theorem dX8_runs_226 : decode cX8_runs 226 = .ok (.iload 4, 2) := by decide +kernel
theorem dX8_runs_228 : decode cX8_runs 228 = .ok (.if_icmp .ne 16, 3) := by decide +kernel
theorem dX8_runs_231 : decode cX8_runs 231 = .ok (.iload 7, 2) := by decide +kernel
theorem dX8_runs_233 : decode cX8_runs 233 = .ok (.ifCond .eq 11, 3) := by decide +kernel
theorem dX8_runs_236 : decode cX8_runs 236 = .ok (.aload_n 0, 1) := by decide +kernel
theorem dX8_runs_237 : decode cX8_runs 237 = .ok (.iload 6, 2) := by decide +kernel
theorem dX8_runs_239 : decode cX8_runs 239 = .ok (.iload 4, 2) := by decide +kernel
theorem dX8_runs_241 : decode cX8_runs 241 = .ok (.invokevirtual 179, 3) := by decide +kernel
theorem dX8_runs_244 : decode cX8_runs 244 = .ok (.iinc 6 1, 3) := by decide +kernel
theorem dX8_runs_247 : decode cX8_runs 247 = .ok (.goto (-85), 3) := by decide +kernel
theorem dX8_runs_250 : decode cX8_runs 250 = .ok (.iinc 5 1, 3) := by decide +kernel
theorem dX8_runs_253 : decode cX8_runs 253 = .ok (.goto (-101), 3) := by decide +kernel
theorem dX8_runs_256 : decode cX8_runs 256 = .ok (.iconst 0, 1) := by decide +kernel
theorem dX8_runs_257 : decode cX8_runs 257 = .ok (.istore 5, 2) := by decide +kernel
theorem dX8_runs_259 : decode cX8_runs 259 = .ok (.iload 5, 2) := by decide +kernel
theorem dX8_runs_261 : decode cX8_runs 261 = .ok (.aload_n 0, 1) := by decide +kernel
theorem dX8_runs_262 : decode cX8_runs 262 = .ok (.getfield 106, 3) := by decide +kernel
theorem dX8_runs_265 : decode cX8_runs 265 = .ok (.if_icmp .ge 81, 3) := by decide +kernel
theorem dX8_runs_268 : decode cX8_runs 268 = .ok (.aload_n 0, 1) := by decide +kernel
theorem dX8_runs_269 : decode cX8_runs 269 = .ok (.getfield 43, 3) := by decide +kernel
theorem dX8_runs_272 : decode cX8_runs 272 = .ok (.iload 5, 2) := by decide +kernel
theorem dX8_runs_274 : decode cX8_runs 274 = .ok (.iaload, 1) := by decide +kernel
theorem dX8_runs_275 : decode cX8_runs 275 = .ok (.iconst (-1), 1) := by decide +kernel
theorem dX8_runs_276 : decode cX8_runs 276 = .ok (.if_icmp .eq 37, 3) := by decide +kernel
theorem dX8_runs_279 : decode cX8_runs 279 = .ok (.aload_n 0, 1) := by decide +kernel
theorem dX8_runs_280 : decode cX8_runs 280 = .ok (.getfield 46, 3) := by decide +kernel
theorem dX8_runs_283 : decode cX8_runs 283 = .ok (.iload 5, 2) := by decide +kernel
theorem dX8_runs_285 : decode cX8_runs 285 = .ok (.iaload, 1) := by decide +kernel
theorem dX8_runs_286 : decode cX8_runs 286 = .ok (.iconst (-1), 1) := by decide +kernel
theorem dX8_runs_287 : decode cX8_runs 287 = .ok (.if_icmp .ne 26, 3) := by decide +kernel
theorem dX8_runs_290 : decode cX8_runs 290 = .ok (.iload 4, 2) := by decide +kernel
theorem dX8_runs_292 : decode cX8_runs 292 = .ok (.aload_n 0, 1) := by decide +kernel
theorem dX8_runs_293 : decode cX8_runs 293 = .ok (.getfield 43, 3) := by decide +kernel
theorem dX8_runs_296 : decode cX8_runs 296 = .ok (.iload 5, 2) := by decide +kernel
theorem dX8_runs_298 : decode cX8_runs 298 = .ok (.iaload, 1) := by decide +kernel
theorem dX8_runs_299 : decode cX8_runs 299 = .ok (.isub, 1) := by decide +kernel
theorem dX8_runs_300 : decode cX8_runs 300 = .ok (.iconst 1, 1) := by decide +kernel
theorem dX8_runs_301 : decode cX8_runs 301 = .ok (.iadd, 1) := by decide +kernel
theorem dX8_runs_302 : decode cX8_runs 302 = .ok (.aload_n 0, 1) := by decide +kernel
theorem dX8_runs_303 : decode cX8_runs 303 = .ok (.getfield 93, 3) := by decide +kernel
theorem dX8_runs_306 : decode cX8_runs 306 = .ok (.if_icmp .ne 7, 3) := by decide +kernel
theorem dX8_runs_309 : decode cX8_runs 309 = .ok (.iconst 1, 1) := by decide +kernel
theorem dX8_runs_310 : decode cX8_runs 310 = .ok (.goto 4, 3) := by decide +kernel
theorem dX8_runs_313 : decode cX8_runs 313 = .ok (.iconst 0, 1) := by decide +kernel
theorem dX8_runs_314 : decode cX8_runs 314 = .ok (.istore 6, 2) := by decide +kernel
theorem dX8_runs_316 : decode cX8_runs 316 = .ok (.aload_n 0, 1) := by decide +kernel
theorem dX8_runs_317 : decode cX8_runs 317 = .ok (.getfield 46, 3) := by decide +kernel
theorem dX8_runs_320 : decode cX8_runs 320 = .ok (.iload 5, 2) := by decide +kernel
theorem dX8_runs_322 : decode cX8_runs 322 = .ok (.iload 6, 2) := by decide +kernel
theorem dX8_runs_324 : decode cX8_runs 324 = .ok (.ifCond .eq 8, 3) := by decide +kernel
theorem dX8_runs_327 : decode cX8_runs 327 = .ok (.iload 4, 2) := by decide +kernel
theorem dX8_runs_329 : decode cX8_runs 329 = .ok (.goto 10, 3) := by decide +kernel
theorem dX8_runs_332 : decode cX8_runs 332 = .ok (.aload_n 0, 1) := by decide +kernel
theorem dX8_runs_333 : decode cX8_runs 333 = .ok (.getfield 46, 3) := by decide +kernel
theorem dX8_runs_336 : decode cX8_runs 336 = .ok (.iload 5, 2) := by decide +kernel
theorem dX8_runs_338 : decode cX8_runs 338 = .ok (.iaload, 1) := by decide +kernel
theorem dX8_runs_339 : decode cX8_runs 339 = .ok (.iastore, 1) := by decide +kernel
theorem dX8_runs_340 : decode cX8_runs 340 = .ok (.iinc 5 1, 3) := by decide +kernel
theorem dX8_runs_343 : decode cX8_runs 343 = .ok (.goto (-84), 3) := by decide +kernel
theorem dX8_runs_346 : decode cX8_runs 346 = .ok (.iinc 4 1, 3) := by decide +kernel
theorem dX8_runs_349 : decode cX8_runs 349 = .ok (.goto (-281), 3) := by decide +kernel
theorem dX8_runs_352 : decode cX8_runs 352 = .ok (.return_, 1) := by decide +kernel
theorem dX8_runsTo_0 : decode cX8_runsTo 0 = .ok (.aload_n 0, 1) := by decide +kernel
theorem dX8_runsTo_1 : decode cX8_runsTo 1 = .ok (.invokevirtual 123, 3) := by decide +kernel
theorem dX8_runsTo_4 : decode cX8_runsTo 4 = .ok (.aload_n 0, 1) := by decide +kernel
theorem dX8_runsTo_5 : decode cX8_runsTo 5 = .ok (.iload_n 1, 1) := by decide +kernel
theorem dX8_runsTo_6 : decode cX8_runsTo 6 = .ok (.aload_n 0, 1) := by decide +kernel
theorem dX8_runsTo_7 : decode cX8_runsTo 7 = .ok (.getfield 145, 3) := by decide +kernel
theorem dX8_runsTo_10 : decode cX8_runsTo 10 = .ok (.aload_n 0, 1) := by decide +kernel
theorem dX8_runsTo_11 : decode cX8_runsTo 11 = .ok (.getfield 148, 3) := by decide +kernel
theorem dX8_runsTo_14 : decode cX8_runsTo 14 = .ok (.invokevirtual 183, 3) := by decide +kernel
theorem dX8_runsTo_17 : decode cX8_runsTo 17 = .ok (.return_, 1) := by decide +kernel
theorem dX8_bitsNow_0 : decode cX8_bitsNow 0 = .ok (.iconst 0, 1) := by decide +kernel
theorem dX8_bitsNow_1 : decode cX8_bitsNow 1 = .ok (.istore_n 2, 1) := by decide +kernel
theorem dX8_bitsNow_2 : decode cX8_bitsNow 2 = .ok (.iconst 0, 1) := by decide +kernel
theorem dX8_bitsNow_3 : decode cX8_bitsNow 3 = .ok (.istore_n 3, 1) := by decide +kernel
theorem dX8_bitsNow_4 : decode cX8_bitsNow 4 = .ok (.iload_n 3, 1) := by decide +kernel
theorem dX8_bitsNow_5 : decode cX8_bitsNow 5 = .ok (.aload_n 0, 1) := by decide +kernel
theorem dX8_bitsNow_6 : decode cX8_bitsNow 6 = .ok (.getfield 106, 3) := by decide +kernel
theorem dX8_bitsNow_9 : decode cX8_bitsNow 9 = .ok (.if_icmp .ge 70, 3) := by decide +kernel
theorem dX8_bitsNow_12 : decode cX8_bitsNow 12 = .ok (.aload_n 0, 1) := by decide +kernel
theorem dX8_bitsNow_13 : decode cX8_bitsNow 13 = .ok (.getfield 43, 3) := by decide +kernel
theorem dX8_bitsNow_16 : decode cX8_bitsNow 16 = .ok (.iload_n 3, 1) := by decide +kernel
theorem dX8_bitsNow_17 : decode cX8_bitsNow 17 = .ok (.iaload, 1) := by decide +kernel
theorem dX8_bitsNow_18 : decode cX8_bitsNow 18 = .ok (.iconst (-1), 1) := by decide +kernel
theorem dX8_bitsNow_19 : decode cX8_bitsNow 19 = .ok (.if_icmp .ne 7, 3) := by decide +kernel
theorem dX8_bitsNow_22 : decode cX8_bitsNow 22 = .ok (.iconst (-1), 1) := by decide +kernel
theorem dX8_bitsNow_23 : decode cX8_bitsNow 23 = .ok (.goto 32, 3) := by decide +kernel
theorem dX8_bitsNow_26 : decode cX8_bitsNow 26 = .ok (.aload_n 0, 1) := by decide +kernel
theorem dX8_bitsNow_27 : decode cX8_bitsNow 27 = .ok (.getfield 46, 3) := by decide +kernel
theorem dX8_bitsNow_30 : decode cX8_bitsNow 30 = .ok (.iload_n 3, 1) := by decide +kernel
theorem dX8_bitsNow_31 : decode cX8_bitsNow 31 = .ok (.iaload, 1) := by decide +kernel
theorem dX8_bitsNow_32 : decode cX8_bitsNow 32 = .ok (.iconst (-1), 1) := by decide +kernel
theorem dX8_bitsNow_33 : decode cX8_bitsNow 33 = .ok (.if_icmp .ne 7, 3) := by decide +kernel
theorem dX8_bitsNow_36 : decode cX8_bitsNow 36 = .ok (.iconst 0, 1) := by decide +kernel
theorem dX8_bitsNow_37 : decode cX8_bitsNow 37 = .ok (.goto 18, 3) := by decide +kernel
theorem dX8_bitsNow_40 : decode cX8_bitsNow 40 = .ok (.aload_n 0, 1) := by decide +kernel
theorem dX8_bitsNow_41 : decode cX8_bitsNow 41 = .ok (.getfield 49, 3) := by decide +kernel
theorem dX8_bitsNow_44 : decode cX8_bitsNow 44 = .ok (.iload_n 3, 1) := by decide +kernel
theorem dX8_bitsNow_45 : decode cX8_bitsNow 45 = .ok (.iaload, 1) := by decide +kernel
theorem dX8_bitsNow_46 : decode cX8_bitsNow 46 = .ok (.iconst (-1), 1) := by decide +kernel
theorem dX8_bitsNow_47 : decode cX8_bitsNow 47 = .ok (.if_icmp .eq 7, 3) := by decide +kernel
theorem dX8_bitsNow_50 : decode cX8_bitsNow 50 = .ok (.iconst 1, 1) := by decide +kernel
theorem dX8_bitsNow_51 : decode cX8_bitsNow 51 = .ok (.goto 4, 3) := by decide +kernel
theorem dX8_bitsNow_54 : decode cX8_bitsNow 54 = .ok (.iconst 2, 1) := by decide +kernel
theorem dX8_bitsNow_55 : decode cX8_bitsNow 55 = .ok (.istore 4, 2) := by decide +kernel
theorem dX8_bitsNow_57 : decode cX8_bitsNow 57 = .ok (.iload_n 2, 1) := by decide +kernel
theorem dX8_bitsNow_58 : decode cX8_bitsNow 58 = .ok (.iload 4, 2) := by decide +kernel
theorem dX8_bitsNow_60 : decode cX8_bitsNow 60 = .ok (.iload_n 1, 1) := by decide +kernel
theorem dX8_bitsNow_61 : decode cX8_bitsNow 61 = .ok (.if_icmp .ne 9, 3) := by decide +kernel
theorem dX8_bitsNow_64 : decode cX8_bitsNow 64 = .ok (.iconst 1, 1) := by decide +kernel
theorem dX8_bitsNow_65 : decode cX8_bitsNow 65 = .ok (.iload_n 3, 1) := by decide +kernel
theorem dX8_bitsNow_66 : decode cX8_bitsNow 66 = .ok (.ishl, 1) := by decide +kernel
theorem dX8_bitsNow_67 : decode cX8_bitsNow 67 = .ok (.goto 4, 3) := by decide +kernel
theorem dX8_bitsNow_70 : decode cX8_bitsNow 70 = .ok (.iconst 0, 1) := by decide +kernel
theorem dX8_bitsNow_71 : decode cX8_bitsNow 71 = .ok (.ior, 1) := by decide +kernel
theorem dX8_bitsNow_72 : decode cX8_bitsNow 72 = .ok (.istore_n 2, 1) := by decide +kernel
theorem dX8_bitsNow_73 : decode cX8_bitsNow 73 = .ok (.iinc 3 1, 3) := by decide +kernel
theorem dX8_bitsNow_76 : decode cX8_bitsNow 76 = .ok (.goto (-72), 3) := by decide +kernel
theorem dX8_bitsNow_79 : decode cX8_bitsNow 79 = .ok (.iload_n 2, 1) := by decide +kernel
theorem dX8_bitsNow_80 : decode cX8_bitsNow 80 = .ok (.ireturn, 1) := by decide +kernel
theorem dX8_behindOf_0 : decode cX8_behindOf 0 = .ok (.aload_n 0, 1) := by decide +kernel
theorem dX8_behindOf_1 : decode cX8_behindOf 1 = .ok (.iload_n 1, 1) := by decide +kernel
theorem dX8_behindOf_2 : decode cX8_behindOf 2 = .ok (.invokevirtual 187, 3) := by decide +kernel
theorem dX8_behindOf_5 : decode cX8_behindOf 5 = .ok (.aload_n 0, 1) := by decide +kernel
theorem dX8_behindOf_6 : decode cX8_behindOf 6 = .ok (.iload_n 2, 1) := by decide +kernel
theorem dX8_behindOf_7 : decode cX8_behindOf 7 = .ok (.invokevirtual 191, 3) := by decide +kernel
theorem dX8_behindOf_10 : decode cX8_behindOf 10 = .ok (.ireturn, 1) := by decide +kernel
theorem dX8_behind_0 : decode cX8_behind 0 = .ok (.iload_n 1, 1) := by decide +kernel
theorem dX8_behind_1 : decode cX8_behind 1 = .ok (.invokestatic 139, 3) := by decide +kernel
theorem dX8_behind_4 : decode cX8_behind 4 = .ok (.ifCond .eq 21, 3) := by decide +kernel
theorem dX8_behind_7 : decode cX8_behind 7 = .ok (.iload_n 2, 1) := by decide +kernel
theorem dX8_behind_8 : decode cX8_behind 8 = .ok (.iconst 0, 1) := by decide +kernel
theorem dX8_behind_9 : decode cX8_behind 9 = .ok (.iconst 2, 1) := by decide +kernel
theorem dX8_behind_10 : decode cX8_behind 10 = .ok (.invokestatic 98, 3) := by decide +kernel
theorem dX8_behind_13 : decode cX8_behind 13 = .ok (.ifCond .eq 12, 3) := by decide +kernel
theorem dX8_behind_16 : decode cX8_behind 16 = .ok (.aload_n 0, 1) := by decide +kernel
theorem dX8_behind_17 : decode cX8_behind 17 = .ok (.iload_n 1, 1) := by decide +kernel
theorem dX8_behind_18 : decode cX8_behind 18 = .ok (.iload_n 2, 1) := by decide +kernel
theorem dX8_behind_19 : decode cX8_behind 19 = .ok (.invokevirtual 194, 3) := by decide +kernel
theorem dX8_behind_22 : decode cX8_behind 22 = .ok (.goto 5, 3) := by decide +kernel
theorem dX8_behind_25 : decode cX8_behind 25 = .ok (.bipush (-2), 2) := by decide +kernel
theorem dX8_behind_27 : decode cX8_behind 27 = .ok (.ireturn, 1) := by decide +kernel
theorem dX8_goneOf_0 : decode cX8_goneOf 0 = .ok (.aload_n 0, 1) := by decide +kernel
theorem dX8_goneOf_1 : decode cX8_goneOf 1 = .ok (.bipush 39, 2) := by decide +kernel
theorem dX8_goneOf_3 : decode cX8_goneOf 3 = .ok (.invokevirtual 187, 3) := by decide +kernel
theorem dX8_goneOf_6 : decode cX8_goneOf 6 = .ok (.iload_n 2, 1) := by decide +kernel
theorem dX8_goneOf_7 : decode cX8_goneOf 7 = .ok (.ifCond .ne 12, 3) := by decide +kernel
theorem dX8_goneOf_10 : decode cX8_goneOf 10 = .ok (.aload_n 0, 1) := by decide +kernel
theorem dX8_goneOf_11 : decode cX8_goneOf 11 = .ok (.getfield 49, 3) := by decide +kernel
theorem dX8_goneOf_14 : decode cX8_goneOf 14 = .ok (.iload_n 1, 1) := by decide +kernel
theorem dX8_goneOf_15 : decode cX8_goneOf 15 = .ok (.iaload, 1) := by decide +kernel
theorem dX8_goneOf_16 : decode cX8_goneOf 16 = .ok (.goto 9, 3) := by decide +kernel
theorem dX8_goneOf_19 : decode cX8_goneOf 19 = .ok (.aload_n 0, 1) := by decide +kernel
theorem dX8_goneOf_20 : decode cX8_goneOf 20 = .ok (.getfield 46, 3) := by decide +kernel
theorem dX8_goneOf_23 : decode cX8_goneOf 23 = .ok (.iload_n 1, 1) := by decide +kernel
theorem dX8_goneOf_24 : decode cX8_goneOf 24 = .ok (.iaload, 1) := by decide +kernel
theorem dX8_goneOf_25 : decode cX8_goneOf 25 = .ok (.ireturn, 1) := by decide +kernel
theorem dX8_gone_0 : decode cX8_gone 0 = .ok (.aload_n 0, 1) := by decide +kernel
theorem dX8_gone_1 : decode cX8_gone 1 = .ok (.iload_n 1, 1) := by decide +kernel
theorem dX8_gone_2 : decode cX8_gone 2 = .ok (.invokevirtual 126, 3) := by decide +kernel
theorem dX8_gone_5 : decode cX8_gone 5 = .ok (.ifCond .eq 21, 3) := by decide +kernel
theorem dX8_gone_8 : decode cX8_gone 8 = .ok (.iload_n 2, 1) := by decide +kernel
theorem dX8_gone_9 : decode cX8_gone 9 = .ok (.iconst 0, 1) := by decide +kernel
theorem dX8_gone_10 : decode cX8_gone 10 = .ok (.iconst 1, 1) := by decide +kernel
theorem dX8_gone_11 : decode cX8_gone 11 = .ok (.invokestatic 98, 3) := by decide +kernel
theorem dX8_gone_14 : decode cX8_gone 14 = .ok (.ifCond .eq 12, 3) := by decide +kernel
theorem dX8_gone_17 : decode cX8_gone 17 = .ok (.aload_n 0, 1) := by decide +kernel
theorem dX8_gone_18 : decode cX8_gone 18 = .ok (.iload_n 1, 1) := by decide +kernel
theorem dX8_gone_19 : decode cX8_gone 19 = .ok (.iload_n 2, 1) := by decide +kernel
theorem dX8_gone_20 : decode cX8_gone 20 = .ok (.invokevirtual 197, 3) := by decide +kernel
theorem dX8_gone_23 : decode cX8_gone 23 = .ok (.goto 5, 3) := by decide +kernel
theorem dX8_gone_26 : decode cX8_gone 26 = .ok (.bipush (-2), 2) := by decide +kernel
theorem dX8_gone_28 : decode cX8_gone 28 = .ok (.ireturn, 1) := by decide +kernel
theorem dX8_emptyNow_0 : decode cX8_emptyNow 0 = .ok (.aload_n 0, 1) := by decide +kernel
theorem dX8_emptyNow_1 : decode cX8_emptyNow 1 = .ok (.bipush 39, 2) := by decide +kernel
theorem dX8_emptyNow_3 : decode cX8_emptyNow 3 = .ok (.invokevirtual 187, 3) := by decide +kernel
theorem dX8_emptyNow_6 : decode cX8_emptyNow 6 = .ok (.aload_n 0, 1) := by decide +kernel
theorem dX8_emptyNow_7 : decode cX8_emptyNow 7 = .ok (.getfield 170, 3) := by decide +kernel
theorem dX8_emptyNow_10 : decode cX8_emptyNow 10 = .ok (.ireturn, 1) := by decide +kernel
theorem dX8_empty_0 : decode cX8_empty 0 = .ok (.aload_n 0, 1) := by decide +kernel
theorem dX8_empty_1 : decode cX8_empty 1 = .ok (.invokevirtual 200, 3) := by decide +kernel
theorem dX8_empty_4 : decode cX8_empty 4 = .ok (.ireturn, 1) := by decide +kernel
theorem dX8_saleNow_0 : decode cX8_saleNow 0 = .ok (.aload_n 0, 1) := by decide +kernel
theorem dX8_saleNow_1 : decode cX8_saleNow 1 = .ok (.bipush 39, 2) := by decide +kernel
theorem dX8_saleNow_3 : decode cX8_saleNow 3 = .ok (.iconst 2, 1) := by decide +kernel
theorem dX8_saleNow_4 : decode cX8_saleNow 4 = .ok (.invokevirtual 194, 3) := by decide +kernel
theorem dX8_saleNow_7 : decode cX8_saleNow 7 = .ok (.istore_n 1, 1) := by decide +kernel
theorem dX8_saleNow_8 : decode cX8_saleNow 8 = .ok (.iconst 0, 1) := by decide +kernel
theorem dX8_saleNow_9 : decode cX8_saleNow 9 = .ok (.istore_n 2, 1) := by decide +kernel
theorem dX8_saleNow_10 : decode cX8_saleNow 10 = .ok (.iconst 0, 1) := by decide +kernel
theorem dX8_saleNow_11 : decode cX8_saleNow 11 = .ok (.istore_n 3, 1) := by decide +kernel
theorem dX8_saleNow_12 : decode cX8_saleNow 12 = .ok (.iload_n 3, 1) := by decide +kernel
theorem dX8_saleNow_13 : decode cX8_saleNow 13 = .ok (.aload_n 0, 1) := by decide +kernel
theorem dX8_saleNow_14 : decode cX8_saleNow 14 = .ok (.getfield 106, 3) := by decide +kernel
theorem dX8_saleNow_17 : decode cX8_saleNow 17 = .ok (.if_icmp .ge 30, 3) := by decide +kernel
theorem dX8_saleNow_20 : decode cX8_saleNow 20 = .ok (.iload_n 2, 1) := by decide +kernel
theorem dX8_saleNow_21 : decode cX8_saleNow 21 = .ok (.iload_n 1, 1) := by decide +kernel
theorem dX8_saleNow_22 : decode cX8_saleNow 22 = .ok (.iload_n 3, 1) := by decide +kernel
theorem dX8_saleNow_23 : decode cX8_saleNow 23 = .ok (.invokestatic 204, 3) := by decide +kernel
theorem dX8_saleNow_26 : decode cX8_saleNow 26 = .ok (.ifCond .eq 12, 3) := by decide +kernel
theorem dX8_saleNow_29 : decode cX8_saleNow 29 = .ok (.aload_n 0, 1) := by decide +kernel
theorem dX8_saleNow_30 : decode cX8_saleNow 30 = .ok (.getfield 19, 3) := by decide +kernel
theorem dX8_saleNow_33 : decode cX8_saleNow 33 = .ok (.iload_n 3, 1) := by decide +kernel
theorem dX8_saleNow_34 : decode cX8_saleNow 34 = .ok (.iaload, 1) := by decide +kernel
theorem dX8_saleNow_35 : decode cX8_saleNow 35 = .ok (.goto 4, 3) := by decide +kernel
theorem dX8_saleNow_38 : decode cX8_saleNow 38 = .ok (.iconst 0, 1) := by decide +kernel
theorem dX8_saleNow_39 : decode cX8_saleNow 39 = .ok (.iadd, 1) := by decide +kernel
theorem dX8_saleNow_40 : decode cX8_saleNow 40 = .ok (.istore_n 2, 1) := by decide +kernel
theorem dX8_saleNow_41 : decode cX8_saleNow 41 = .ok (.iinc 3 1, 3) := by decide +kernel
theorem dX8_saleNow_44 : decode cX8_saleNow 44 = .ok (.goto (-32), 3) := by decide +kernel
theorem dX8_saleNow_47 : decode cX8_saleNow 47 = .ok (.iload_n 2, 1) := by decide +kernel
theorem dX8_saleNow_48 : decode cX8_saleNow 48 = .ok (.ireturn, 1) := by decide +kernel
theorem dX8_sale_0 : decode cX8_sale 0 = .ok (.aload_n 0, 1) := by decide +kernel
theorem dX8_sale_1 : decode cX8_sale 1 = .ok (.invokevirtual 207, 3) := by decide +kernel
theorem dX8_sale_4 : decode cX8_sale 4 = .ok (.ireturn, 1) := by decide +kernel
theorem dX8_saintOf_0 : decode cX8_saintOf 0 = .ok (.aload_n 0, 1) := by decide +kernel
theorem dX8_saintOf_1 : decode cX8_saintOf 1 = .ok (.bipush 39, 2) := by decide +kernel
theorem dX8_saintOf_3 : decode cX8_saintOf 3 = .ok (.invokevirtual 187, 3) := by decide +kernel
theorem dX8_saintOf_6 : decode cX8_saintOf 6 = .ok (.aload_n 0, 1) := by decide +kernel
theorem dX8_saintOf_7 : decode cX8_saintOf 7 = .ok (.getfield 173, 3) := by decide +kernel
theorem dX8_saintOf_10 : decode cX8_saintOf 10 = .ok (.ireturn, 1) := by decide +kernel
theorem dX8_saint_0 : decode cX8_saint 0 = .ok (.aload_n 0, 1) := by decide +kernel
theorem dX8_saint_1 : decode cX8_saint 1 = .ok (.invokevirtual 210, 3) := by decide +kernel
theorem dX8_saint_4 : decode cX8_saint 4 = .ok (.ireturn, 1) := by decide +kernel
theorem dX8_fittingOf_0 : decode cX8_fittingOf 0 = .ok (.iconst 0, 1) := by decide +kernel
theorem dX8_fittingOf_1 : decode cX8_fittingOf 1 = .ok (.istore_n 3, 1) := by decide +kernel
theorem dX8_fittingOf_2 : decode cX8_fittingOf 2 = .ok (.iconst 0, 1) := by decide +kernel
theorem dX8_fittingOf_3 : decode cX8_fittingOf 3 = .ok (.istore 4, 2) := by decide +kernel
theorem dX8_fittingOf_5 : decode cX8_fittingOf 5 = .ok (.iload 4, 2) := by decide +kernel
theorem dX8_fittingOf_7 : decode cX8_fittingOf 7 = .ok (.bipush 8, 2) := by decide +kernel
theorem dX8_fittingOf_9 : decode cX8_fittingOf 9 = .ok (.if_icmp .ge 79, 3) := by decide +kernel
theorem dX8_fittingOf_12 : decode cX8_fittingOf 12 = .ok (.iload 4, 2) := by decide +kernel
theorem dX8_fittingOf_14 : decode cX8_fittingOf 14 = .ok (.iload_n 1, 1) := by decide +kernel
theorem dX8_fittingOf_15 : decode cX8_fittingOf 15 = .ok (.ifCond .ne 10, 3) := by decide +kernel
theorem dX8_fittingOf_18 : decode cX8_fittingOf 18 = .ok (.aload_n 0, 1) := by decide +kernel
theorem dX8_fittingOf_19 : decode cX8_fittingOf 19 = .ok (.getfield 106, 3) := by decide +kernel
theorem dX8_fittingOf_22 : decode cX8_fittingOf 22 = .ok (.goto 7, 3) := by decide +kernel
theorem dX8_fittingOf_25 : decode cX8_fittingOf 25 = .ok (.aload_n 0, 1) := by decide +kernel
theorem dX8_fittingOf_26 : decode cX8_fittingOf 26 = .ok (.getfield 109, 3) := by decide +kernel
theorem dX8_fittingOf_29 : decode cX8_fittingOf 29 = .ok (.if_icmp .ge 7, 3) := by decide +kernel
theorem dX8_fittingOf_32 : decode cX8_fittingOf 32 = .ok (.iconst 1, 1) := by decide +kernel
theorem dX8_fittingOf_33 : decode cX8_fittingOf 33 = .ok (.goto 4, 3) := by decide +kernel
theorem dX8_fittingOf_36 : decode cX8_fittingOf 36 = .ok (.iconst 0, 1) := by decide +kernel
theorem dX8_fittingOf_37 : decode cX8_fittingOf 37 = .ok (.istore 5, 2) := by decide +kernel
theorem dX8_fittingOf_39 : decode cX8_fittingOf 39 = .ok (.iload_n 3, 1) := by decide +kernel
theorem dX8_fittingOf_40 : decode cX8_fittingOf 40 = .ok (.iload 5, 2) := by decide +kernel
theorem dX8_fittingOf_42 : decode cX8_fittingOf 42 = .ok (.ifCond .eq 37, 3) := by decide +kernel
theorem dX8_fittingOf_45 : decode cX8_fittingOf 45 = .ok (.iload_n 1, 1) := by decide +kernel
theorem dX8_fittingOf_46 : decode cX8_fittingOf 46 = .ok (.ifCond .ne 16, 3) := by decide +kernel
theorem dX8_fittingOf_49 : decode cX8_fittingOf 49 = .ok (.aload_n 0, 1) := by decide +kernel
theorem dX8_fittingOf_50 : decode cX8_fittingOf 50 = .ok (.iload_n 2, 1) := by decide +kernel
theorem dX8_fittingOf_51 : decode cX8_fittingOf 51 = .ok (.iload 4, 2) := by decide +kernel
theorem dX8_fittingOf_53 : decode cX8_fittingOf 53 = .ok (.invokevirtual 160, 3) := by decide +kernel
theorem dX8_fittingOf_56 : decode cX8_fittingOf 56 = .ok (.ifCond .eq 23, 3) := by decide +kernel
theorem dX8_fittingOf_59 : decode cX8_fittingOf 59 = .ok (.goto 13, 3) := by decide +kernel
theorem dX8_fittingOf_62 : decode cX8_fittingOf 62 = .ok (.aload_n 0, 1) := by decide +kernel
theorem dX8_fittingOf_63 : decode cX8_fittingOf 63 = .ok (.iload 4, 2) := by decide +kernel
theorem dX8_fittingOf_65 : decode cX8_fittingOf 65 = .ok (.iload_n 2, 1) := by decide +kernel
theorem dX8_fittingOf_66 : decode cX8_fittingOf 66 = .ok (.invokevirtual 160, 3) := by decide +kernel
theorem dX8_fittingOf_69 : decode cX8_fittingOf 69 = .ok (.ifCond .eq 10, 3) := by decide +kernel
theorem dX8_fittingOf_72 : decode cX8_fittingOf 72 = .ok (.iconst 1, 1) := by decide +kernel
theorem dX8_fittingOf_73 : decode cX8_fittingOf 73 = .ok (.iload 4, 2) := by decide +kernel
theorem dX8_fittingOf_75 : decode cX8_fittingOf 75 = .ok (.ishl, 1) := by decide +kernel
theorem dX8_fittingOf_76 : decode cX8_fittingOf 76 = .ok (.goto 4, 3) := by decide +kernel
theorem dX8_fittingOf_79 : decode cX8_fittingOf 79 = .ok (.iconst 0, 1) := by decide +kernel
theorem dX8_fittingOf_80 : decode cX8_fittingOf 80 = .ok (.ior, 1) := by decide +kernel
theorem dX8_fittingOf_81 : decode cX8_fittingOf 81 = .ok (.istore_n 3, 1) := by decide +kernel
theorem dX8_fittingOf_82 : decode cX8_fittingOf 82 = .ok (.iinc 4 1, 3) := by decide +kernel
theorem dX8_fittingOf_85 : decode cX8_fittingOf 85 = .ok (.goto (-80), 3) := by decide +kernel
theorem dX8_fittingOf_88 : decode cX8_fittingOf 88 = .ok (.iload_n 3, 1) := by decide +kernel
theorem dX8_fittingOf_89 : decode cX8_fittingOf 89 = .ok (.ireturn, 1) := by decide +kernel
theorem dX8_fitting_0 : decode cX8_fitting 0 = .ok (.iload_n 1, 1) := by decide +kernel
theorem dX8_fitting_1 : decode cX8_fitting 1 = .ok (.ifCond .ne 11, 3) := by decide +kernel
theorem dX8_fitting_4 : decode cX8_fitting 4 = .ok (.aload_n 0, 1) := by decide +kernel
theorem dX8_fitting_5 : decode cX8_fitting 5 = .ok (.iload_n 2, 1) := by decide +kernel
theorem dX8_fitting_6 : decode cX8_fitting 6 = .ok (.invokevirtual 129, 3) := by decide +kernel
theorem dX8_fitting_9 : decode cX8_fitting 9 = .ok (.goto 21, 3) := by decide +kernel
theorem dX8_fitting_12 : decode cX8_fitting 12 = .ok (.iload_n 1, 1) := by decide +kernel
theorem dX8_fitting_13 : decode cX8_fitting 13 = .ok (.iconst 1, 1) := by decide +kernel
theorem dX8_fitting_14 : decode cX8_fitting 14 = .ok (.if_icmp .ne 15, 3) := by decide +kernel
theorem dX8_fitting_17 : decode cX8_fitting 17 = .ok (.aload_n 0, 1) := by decide +kernel
theorem dX8_fitting_18 : decode cX8_fitting 18 = .ok (.iload_n 2, 1) := by decide +kernel
theorem dX8_fitting_19 : decode cX8_fitting 19 = .ok (.invokevirtual 126, 3) := by decide +kernel
theorem dX8_fitting_22 : decode cX8_fitting 22 = .ok (.ifCond .eq 7, 3) := by decide +kernel
theorem dX8_fitting_25 : decode cX8_fitting 25 = .ok (.iconst 1, 1) := by decide +kernel
theorem dX8_fitting_26 : decode cX8_fitting 26 = .ok (.goto 4, 3) := by decide +kernel
theorem dX8_fitting_29 : decode cX8_fitting 29 = .ok (.iconst 0, 1) := by decide +kernel
theorem dX8_fitting_30 : decode cX8_fitting 30 = .ok (.istore_n 3, 1) := by decide +kernel
theorem dX8_fitting_31 : decode cX8_fitting 31 = .ok (.iload_n 3, 1) := by decide +kernel
theorem dX8_fitting_32 : decode cX8_fitting 32 = .ok (.ifCond .eq 12, 3) := by decide +kernel
theorem dX8_fitting_35 : decode cX8_fitting 35 = .ok (.aload_n 0, 1) := by decide +kernel
theorem dX8_fitting_36 : decode cX8_fitting 36 = .ok (.iload_n 1, 1) := by decide +kernel
theorem dX8_fitting_37 : decode cX8_fitting 37 = .ok (.iload_n 2, 1) := by decide +kernel
theorem dX8_fitting_38 : decode cX8_fitting 38 = .ok (.invokevirtual 213, 3) := by decide +kernel
theorem dX8_fitting_41 : decode cX8_fitting 41 = .ok (.goto 5, 3) := by decide +kernel
theorem dX8_fitting_44 : decode cX8_fitting 44 = .ok (.bipush (-2), 2) := by decide +kernel
theorem dX8_fitting_46 : decode cX8_fitting 46 = .ok (.ireturn, 1) := by decide +kernel
theorem dX8_laysMatch_0 : decode cX8_laysMatch 0 = .ok (.aload_n 0, 1) := by decide +kernel
theorem dX8_laysMatch_1 : decode cX8_laysMatch 1 = .ok (.invokevirtual 123, 3) := by decide +kernel
theorem dX8_laysMatch_4 : decode cX8_laysMatch 4 = .ok (.aload_n 0, 1) := by decide +kernel
theorem dX8_laysMatch_5 : decode cX8_laysMatch 5 = .ok (.getfield 106, 3) := by decide +kernel
theorem dX8_laysMatch_8 : decode cX8_laysMatch 8 = .ok (.iconst 1, 1) := by decide +kernel
theorem dX8_laysMatch_9 : decode cX8_laysMatch 9 = .ok (.isub, 1) := by decide +kernel
theorem dX8_laysMatch_10 : decode cX8_laysMatch 10 = .ok (.istore_n 1, 1) := by decide +kernel
theorem dX8_laysMatch_11 : decode cX8_laysMatch 11 = .ok (.iload_n 1, 1) := by decide +kernel
theorem dX8_laysMatch_12 : decode cX8_laysMatch 12 = .ok (.ifCond .lt 162, 3) := by decide +kernel
theorem dX8_laysMatch_15 : decode cX8_laysMatch 15 = .ok (.iconst 0, 1) := by decide +kernel
theorem dX8_laysMatch_16 : decode cX8_laysMatch 16 = .ok (.istore_n 2, 1) := by decide +kernel
theorem dX8_laysMatch_17 : decode cX8_laysMatch 17 = .ok (.iload_n 2, 1) := by decide +kernel
theorem dX8_laysMatch_18 : decode cX8_laysMatch 18 = .ok (.sipush 256, 3) := by decide +kernel
theorem dX8_laysMatch_21 : decode cX8_laysMatch 21 = .ok (.if_icmp .ge 147, 3) := by decide +kernel
theorem dX8_laysMatch_24 : decode cX8_laysMatch 24 = .ok (.iload_n 1, 1) := by decide +kernel
theorem dX8_laysMatch_25 : decode cX8_laysMatch 25 = .ok (.aload_n 0, 1) := by decide +kernel
theorem dX8_laysMatch_26 : decode cX8_laysMatch 26 = .ok (.getfield 106, 3) := by decide +kernel
theorem dX8_laysMatch_29 : decode cX8_laysMatch 29 = .ok (.iconst 1, 1) := by decide +kernel
theorem dX8_laysMatch_30 : decode cX8_laysMatch 30 = .ok (.isub, 1) := by decide +kernel
theorem dX8_laysMatch_31 : decode cX8_laysMatch 31 = .ok (.if_icmp .ne 7, 3) := by decide +kernel
theorem dX8_laysMatch_34 : decode cX8_laysMatch 34 = .ok (.iconst 0, 1) := by decide +kernel
theorem dX8_laysMatch_35 : decode cX8_laysMatch 35 = .ok (.goto 17, 3) := by decide +kernel
theorem dX8_laysMatch_38 : decode cX8_laysMatch 38 = .ok (.aload_n 0, 1) := by decide +kernel
theorem dX8_laysMatch_39 : decode cX8_laysMatch 39 = .ok (.getfield 52, 3) := by decide +kernel
theorem dX8_laysMatch_42 : decode cX8_laysMatch 42 = .ok (.sipush 256, 3) := by decide +kernel
theorem dX8_laysMatch_45 : decode cX8_laysMatch 45 = .ok (.iload_n 1, 1) := by decide +kernel
theorem dX8_laysMatch_46 : decode cX8_laysMatch 46 = .ok (.iconst 1, 1) := by decide +kernel
theorem dX8_laysMatch_47 : decode cX8_laysMatch 47 = .ok (.iadd, 1) := by decide +kernel
theorem dX8_laysMatch_48 : decode cX8_laysMatch 48 = .ok (.imul, 1) := by decide +kernel
theorem dX8_laysMatch_49 : decode cX8_laysMatch 49 = .ok (.iload_n 2, 1) := by decide +kernel
theorem dX8_laysMatch_50 : decode cX8_laysMatch 50 = .ok (.iadd, 1) := by decide +kernel
theorem dX8_laysMatch_51 : decode cX8_laysMatch 51 = .ok (.iaload, 1) := by decide +kernel
theorem dX8_laysMatch_52 : decode cX8_laysMatch 52 = .ok (.istore_n 3, 1) := by decide +kernel
theorem dX8_laysMatch_53 : decode cX8_laysMatch 53 = .ok (.iconst 0, 1) := by decide +kernel
theorem dX8_laysMatch_54 : decode cX8_laysMatch 54 = .ok (.istore 4, 2) := by decide +kernel
theorem dX8_laysMatch_56 : decode cX8_laysMatch 56 = .ok (.iload 4, 2) := by decide +kernel
theorem dX8_laysMatch_58 : decode cX8_laysMatch 58 = .ok (.aload_n 0, 1) := by decide +kernel
theorem dX8_laysMatch_59 : decode cX8_laysMatch 59 = .ok (.getfield 109, 3) := by decide +kernel
theorem dX8_laysMatch_62 : decode cX8_laysMatch 62 = .ok (.if_icmp .ge 87, 3) := by decide +kernel
theorem dX8_laysMatch_65 : decode cX8_laysMatch 65 = .ok (.iload_n 2, 1) := by decide +kernel
theorem dX8_laysMatch_66 : decode cX8_laysMatch 66 = .ok (.iload 4, 2) := by decide +kernel
theorem dX8_laysMatch_68 : decode cX8_laysMatch 68 = .ok (.invokestatic 204, 3) := by decide +kernel
theorem dX8_laysMatch_71 : decode cX8_laysMatch 71 = .ok (.ifCond .ne 72, 3) := by decide +kernel
theorem dX8_laysMatch_74 : decode cX8_laysMatch 74 = .ok (.aload_n 0, 1) := by decide +kernel
theorem dX8_laysMatch_75 : decode cX8_laysMatch 75 = .ok (.iload 4, 2) := by decide +kernel
theorem dX8_laysMatch_77 : decode cX8_laysMatch 77 = .ok (.iload_n 1, 1) := by decide +kernel
theorem dX8_laysMatch_78 : decode cX8_laysMatch 78 = .ok (.invokevirtual 160, 3) := by decide +kernel
theorem dX8_laysMatch_81 : decode cX8_laysMatch 81 = .ok (.ifCond .eq 62, 3) := by decide +kernel
theorem dX8_laysMatch_84 : decode cX8_laysMatch 84 = .ok (.sipush 1000, 3) := by decide +kernel
theorem dX8_laysMatch_87 : decode cX8_laysMatch 87 = .ok (.aload_n 0, 1) := by decide +kernel
theorem dX8_laysMatch_88 : decode cX8_laysMatch 88 = .ok (.getfield 19, 3) := by decide +kernel
theorem dX8_laysMatch_91 : decode cX8_laysMatch 91 = .ok (.iload_n 1, 1) := by decide +kernel
theorem dX8_laysMatch_92 : decode cX8_laysMatch 92 = .ok (.iaload, 1) := by decide +kernel
theorem dX8_laysMatch_93 : decode cX8_laysMatch 93 = .ok (.iadd, 1) := by decide +kernel
theorem dX8_laysMatch_94 : decode cX8_laysMatch 94 = .ok (.iload_n 1, 1) := by decide +kernel
theorem dX8_laysMatch_95 : decode cX8_laysMatch 95 = .ok (.aload_n 0, 1) := by decide +kernel
theorem dX8_laysMatch_96 : decode cX8_laysMatch 96 = .ok (.getfield 106, 3) := by decide +kernel
theorem dX8_laysMatch_99 : decode cX8_laysMatch 99 = .ok (.iconst 1, 1) := by decide +kernel
theorem dX8_laysMatch_100 : decode cX8_laysMatch 100 = .ok (.isub, 1) := by decide +kernel
theorem dX8_laysMatch_101 : decode cX8_laysMatch 101 = .ok (.if_icmp .ne 7, 3) := by decide +kernel
theorem dX8_laysMatch_104 : decode cX8_laysMatch 104 = .ok (.iconst 0, 1) := by decide +kernel
theorem dX8_laysMatch_105 : decode cX8_laysMatch 105 = .ok (.goto 22, 3) := by decide +kernel
theorem dX8_laysMatch_108 : decode cX8_laysMatch 108 = .ok (.aload_n 0, 1) := by decide +kernel
theorem dX8_laysMatch_109 : decode cX8_laysMatch 109 = .ok (.getfield 52, 3) := by decide +kernel
theorem dX8_laysMatch_112 : decode cX8_laysMatch 112 = .ok (.sipush 256, 3) := by decide +kernel
theorem dX8_laysMatch_115 : decode cX8_laysMatch 115 = .ok (.iload_n 1, 1) := by decide +kernel
theorem dX8_laysMatch_116 : decode cX8_laysMatch 116 = .ok (.iconst 1, 1) := by decide +kernel
theorem dX8_laysMatch_117 : decode cX8_laysMatch 117 = .ok (.iadd, 1) := by decide +kernel
theorem dX8_laysMatch_118 : decode cX8_laysMatch 118 = .ok (.imul, 1) := by decide +kernel
theorem dX8_laysMatch_119 : decode cX8_laysMatch 119 = .ok (.iload_n 2, 1) := by decide +kernel
theorem dX8_laysMatch_120 : decode cX8_laysMatch 120 = .ok (.iconst 1, 1) := by decide +kernel
theorem dX8_laysMatch_121 : decode cX8_laysMatch 121 = .ok (.iload 4, 2) := by decide +kernel
theorem dX8_laysMatch_123 : decode cX8_laysMatch 123 = .ok (.ishl, 1) := by decide +kernel
theorem dX8_laysMatch_124 : decode cX8_laysMatch 124 = .ok (.ior, 1) := by decide +kernel
theorem dX8_laysMatch_125 : decode cX8_laysMatch 125 = .ok (.iadd, 1) := by decide +kernel
theorem dX8_laysMatch_126 : decode cX8_laysMatch 126 = .ok (.iaload, 1) := by decide +kernel
theorem dX8_laysMatch_127 : decode cX8_laysMatch 127 = .ok (.iadd, 1) := by decide +kernel
theorem dX8_laysMatch_128 : decode cX8_laysMatch 128 = .ok (.istore 5, 2) := by decide +kernel
theorem dX8_laysMatch_130 : decode cX8_laysMatch 130 = .ok (.iload 5, 2) := by decide +kernel
theorem dX8_laysMatch_132 : decode cX8_laysMatch 132 = .ok (.iload_n 3, 1) := by decide +kernel
theorem dX8_laysMatch_133 : decode cX8_laysMatch 133 = .ok (.if_icmp .le 8, 3) := by decide +kernel
theorem dX8_laysMatch_136 : decode cX8_laysMatch 136 = .ok (.iload 5, 2) := by decide +kernel
theorem dX8_laysMatch_138 : decode cX8_laysMatch 138 = .ok (.goto 4, 3) := by decide +kernel
theorem dX8_laysMatch_141 : decode cX8_laysMatch 141 = .ok (.iload_n 3, 1) := by decide +kernel
theorem dX8_laysMatch_142 : decode cX8_laysMatch 142 = .ok (.istore_n 3, 1) := by decide +kernel
theorem dX8_laysMatch_143 : decode cX8_laysMatch 143 = .ok (.iinc 4 1, 3) := by decide +kernel
theorem dX8_laysMatch_146 : decode cX8_laysMatch 146 = .ok (.goto (-90), 3) := by decide +kernel
theorem dX8_laysMatch_149 : decode cX8_laysMatch 149 = .ok (.aload_n 0, 1) := by decide +kernel
theorem dX8_laysMatch_150 : decode cX8_laysMatch 150 = .ok (.getfield 52, 3) := by decide +kernel
theorem dX8_laysMatch_153 : decode cX8_laysMatch 153 = .ok (.sipush 256, 3) := by decide +kernel
theorem dX8_laysMatch_156 : decode cX8_laysMatch 156 = .ok (.iload_n 1, 1) := by decide +kernel
theorem dX8_laysMatch_157 : decode cX8_laysMatch 157 = .ok (.imul, 1) := by decide +kernel
theorem dX8_laysMatch_158 : decode cX8_laysMatch 158 = .ok (.iload_n 2, 1) := by decide +kernel
theorem dX8_laysMatch_159 : decode cX8_laysMatch 159 = .ok (.iadd, 1) := by decide +kernel
theorem dX8_laysMatch_160 : decode cX8_laysMatch 160 = .ok (.iload_n 3, 1) := by decide +kernel
theorem dX8_laysMatch_161 : decode cX8_laysMatch 161 = .ok (.iastore, 1) := by decide +kernel
theorem dX8_laysMatch_162 : decode cX8_laysMatch 162 = .ok (.iinc 2 1, 3) := by decide +kernel
theorem dX8_laysMatch_165 : decode cX8_laysMatch 165 = .ok (.goto (-148), 3) := by decide +kernel
theorem dX8_laysMatch_168 : decode cX8_laysMatch 168 = .ok (.iinc 1 (-1), 3) := by decide +kernel
theorem dX8_laysMatch_171 : decode cX8_laysMatch 171 = .ok (.goto (-160), 3) := by decide +kernel
theorem dX8_laysMatch_174 : decode cX8_laysMatch 174 = .ok (.iconst 0, 1) := by decide +kernel
theorem dX8_laysMatch_175 : decode cX8_laysMatch 175 = .ok (.istore_n 1, 1) := by decide +kernel
theorem dX8_laysMatch_176 : decode cX8_laysMatch 176 = .ok (.iconst 0, 1) := by decide +kernel
theorem dX8_laysMatch_177 : decode cX8_laysMatch 177 = .ok (.istore_n 2, 1) := by decide +kernel
theorem dX8_laysMatch_178 : decode cX8_laysMatch 178 = .ok (.iload_n 2, 1) := by decide +kernel
theorem dX8_laysMatch_179 : decode cX8_laysMatch 179 = .ok (.bipush 8, 2) := by decide +kernel
theorem dX8_laysMatch_181 : decode cX8_laysMatch 181 = .ok (.if_icmp .ge 161, 3) := by decide +kernel
theorem dX8_laysMatch_184 : decode cX8_laysMatch 184 = .ok (.aload_n 0, 1) := by decide +kernel
theorem dX8_laysMatch_185 : decode cX8_laysMatch 185 = .ok (.getfield 55, 3) := by decide +kernel
theorem dX8_laysMatch_188 : decode cX8_laysMatch 188 = .ok (.iload_n 2, 1) := by decide +kernel
theorem dX8_laysMatch_189 : decode cX8_laysMatch 189 = .ok (.iconst (-1), 1) := by decide +kernel
theorem dX8_laysMatch_190 : decode cX8_laysMatch 190 = .ok (.iastore, 1) := by decide +kernel
theorem dX8_laysMatch_191 : decode cX8_laysMatch 191 = .ok (.aload_n 0, 1) := by decide +kernel
theorem dX8_laysMatch_192 : decode cX8_laysMatch 192 = .ok (.getfield 109, 3) := by decide +kernel
theorem dX8_laysMatch_195 : decode cX8_laysMatch 195 = .ok (.iconst 1, 1) := by decide +kernel
theorem dX8_laysMatch_196 : decode cX8_laysMatch 196 = .ok (.isub, 1) := by decide +kernel
theorem dX8_laysMatch_197 : decode cX8_laysMatch 197 = .ok (.istore_n 3, 1) := by decide +kernel
theorem dX8_laysMatch_198 : decode cX8_laysMatch 198 = .ok (.iload_n 3, 1) := by decide +kernel
theorem dX8_laysMatch_199 : decode cX8_laysMatch 199 = .ok (.ifCond .lt 112, 3) := by decide +kernel
theorem dX8_laysMatch_202 : decode cX8_laysMatch 202 = .ok (.iload_n 2, 1) := by decide +kernel
theorem dX8_laysMatch_203 : decode cX8_laysMatch 203 = .ok (.aload_n 0, 1) := by decide +kernel
theorem dX8_laysMatch_204 : decode cX8_laysMatch 204 = .ok (.getfield 106, 3) := by decide +kernel
theorem dX8_laysMatch_207 : decode cX8_laysMatch 207 = .ok (.if_icmp .ge 104, 3) := by decide +kernel
theorem dX8_laysMatch_210 : decode cX8_laysMatch 210 = .ok (.iload_n 1, 1) := by decide +kernel
theorem dX8_laysMatch_211 : decode cX8_laysMatch 211 = .ok (.iload_n 3, 1) := by decide +kernel
theorem dX8_laysMatch_212 : decode cX8_laysMatch 212 = .ok (.invokestatic 204, 3) := by decide +kernel
theorem dX8_laysMatch_215 : decode cX8_laysMatch 215 = .ok (.ifCond .ne 90, 3) := by decide +kernel
theorem dX8_laysMatch_218 : decode cX8_laysMatch 218 = .ok (.aload_n 0, 1) := by decide +kernel
theorem dX8_laysMatch_219 : decode cX8_laysMatch 219 = .ok (.iload_n 3, 1) := by decide +kernel
theorem dX8_laysMatch_220 : decode cX8_laysMatch 220 = .ok (.iload_n 2, 1) := by decide +kernel
theorem dX8_laysMatch_221 : decode cX8_laysMatch 221 = .ok (.invokevirtual 160, 3) := by decide +kernel
theorem dX8_laysMatch_224 : decode cX8_laysMatch 224 = .ok (.ifCond .eq 81, 3) := by decide +kernel
theorem dX8_laysMatch_227 : decode cX8_laysMatch 227 = .ok (.sipush 1000, 3) := by decide +kernel
theorem dX8_laysMatch_230 : decode cX8_laysMatch 230 = .ok (.aload_n 0, 1) := by decide +kernel
theorem dX8_laysMatch_231 : decode cX8_laysMatch 231 = .ok (.getfield 19, 3) := by decide +kernel
theorem dX8_laysMatch_234 : decode cX8_laysMatch 234 = .ok (.iload_n 2, 1) := by decide +kernel
theorem dX8_laysMatch_235 : decode cX8_laysMatch 235 = .ok (.iaload, 1) := by decide +kernel
theorem dX8_laysMatch_236 : decode cX8_laysMatch 236 = .ok (.iadd, 1) := by decide +kernel
theorem dX8_laysMatch_237 : decode cX8_laysMatch 237 = .ok (.iload_n 2, 1) := by decide +kernel
theorem dX8_laysMatch_238 : decode cX8_laysMatch 238 = .ok (.aload_n 0, 1) := by decide +kernel
theorem dX8_laysMatch_239 : decode cX8_laysMatch 239 = .ok (.getfield 106, 3) := by decide +kernel
theorem dX8_laysMatch_242 : decode cX8_laysMatch 242 = .ok (.iconst 1, 1) := by decide +kernel
theorem dX8_laysMatch_243 : decode cX8_laysMatch 243 = .ok (.isub, 1) := by decide +kernel
theorem dX8_laysMatch_244 : decode cX8_laysMatch 244 = .ok (.if_icmp .ne 7, 3) := by decide +kernel
theorem dX8_laysMatch_247 : decode cX8_laysMatch 247 = .ok (.iconst 0, 1) := by decide +kernel
theorem dX8_laysMatch_248 : decode cX8_laysMatch 248 = .ok (.goto 21, 3) := by decide +kernel
theorem dX8_laysMatch_251 : decode cX8_laysMatch 251 = .ok (.aload_n 0, 1) := by decide +kernel
theorem dX8_laysMatch_252 : decode cX8_laysMatch 252 = .ok (.getfield 52, 3) := by decide +kernel
theorem dX8_laysMatch_255 : decode cX8_laysMatch 255 = .ok (.sipush 256, 3) := by decide +kernel
theorem dX8_laysMatch_258 : decode cX8_laysMatch 258 = .ok (.iload_n 2, 1) := by decide +kernel
theorem dX8_laysMatch_259 : decode cX8_laysMatch 259 = .ok (.iconst 1, 1) := by decide +kernel
theorem dX8_laysMatch_260 : decode cX8_laysMatch 260 = .ok (.iadd, 1) := by decide +kernel
theorem dX8_laysMatch_261 : decode cX8_laysMatch 261 = .ok (.imul, 1) := by decide +kernel
theorem dX8_laysMatch_262 : decode cX8_laysMatch 262 = .ok (.iload_n 1, 1) := by decide +kernel
theorem dX8_laysMatch_263 : decode cX8_laysMatch 263 = .ok (.iconst 1, 1) := by decide +kernel
theorem dX8_laysMatch_264 : decode cX8_laysMatch 264 = .ok (.iload_n 3, 1) := by decide +kernel
theorem dX8_laysMatch_265 : decode cX8_laysMatch 265 = .ok (.ishl, 1) := by decide +kernel
theorem dX8_laysMatch_266 : decode cX8_laysMatch 266 = .ok (.ior, 1) := by decide +kernel
theorem dX8_laysMatch_267 : decode cX8_laysMatch 267 = .ok (.iadd, 1) := by decide +kernel
theorem dX8_laysMatch_268 : decode cX8_laysMatch 268 = .ok (.iaload, 1) := by decide +kernel
theorem dX8_laysMatch_269 : decode cX8_laysMatch 269 = .ok (.iadd, 1) := by decide +kernel
theorem dX8_laysMatch_270 : decode cX8_laysMatch 270 = .ok (.istore 4, 2) := by decide +kernel
theorem dX8_laysMatch_272 : decode cX8_laysMatch 272 = .ok (.aload_n 0, 1) := by decide +kernel
theorem dX8_laysMatch_273 : decode cX8_laysMatch 273 = .ok (.getfield 55, 3) := by decide +kernel
theorem dX8_laysMatch_276 : decode cX8_laysMatch 276 = .ok (.iload_n 2, 1) := by decide +kernel
theorem dX8_laysMatch_277 : decode cX8_laysMatch 277 = .ok (.iload 4, 2) := by decide +kernel
theorem dX8_laysMatch_279 : decode cX8_laysMatch 279 = .ok (.aload_n 0, 1) := by decide +kernel
theorem dX8_laysMatch_280 : decode cX8_laysMatch 280 = .ok (.getfield 52, 3) := by decide +kernel
theorem dX8_laysMatch_283 : decode cX8_laysMatch 283 = .ok (.sipush 256, 3) := by decide +kernel
theorem dX8_laysMatch_286 : decode cX8_laysMatch 286 = .ok (.iload_n 2, 1) := by decide +kernel
theorem dX8_laysMatch_287 : decode cX8_laysMatch 287 = .ok (.imul, 1) := by decide +kernel
theorem dX8_laysMatch_288 : decode cX8_laysMatch 288 = .ok (.iload_n 1, 1) := by decide +kernel
theorem dX8_laysMatch_289 : decode cX8_laysMatch 289 = .ok (.iadd, 1) := by decide +kernel
theorem dX8_laysMatch_290 : decode cX8_laysMatch 290 = .ok (.iaload, 1) := by decide +kernel
theorem dX8_laysMatch_291 : decode cX8_laysMatch 291 = .ok (.if_icmp .ne 7, 3) := by decide +kernel
theorem dX8_laysMatch_294 : decode cX8_laysMatch 294 = .ok (.iload_n 3, 1) := by decide +kernel
theorem dX8_laysMatch_295 : decode cX8_laysMatch 295 = .ok (.goto 9, 3) := by decide +kernel
theorem dX8_laysMatch_298 : decode cX8_laysMatch 298 = .ok (.aload_n 0, 1) := by decide +kernel
theorem dX8_laysMatch_299 : decode cX8_laysMatch 299 = .ok (.getfield 55, 3) := by decide +kernel
theorem dX8_laysMatch_302 : decode cX8_laysMatch 302 = .ok (.iload_n 2, 1) := by decide +kernel
theorem dX8_laysMatch_303 : decode cX8_laysMatch 303 = .ok (.iaload, 1) := by decide +kernel
theorem dX8_laysMatch_304 : decode cX8_laysMatch 304 = .ok (.iastore, 1) := by decide +kernel
theorem dX8_laysMatch_305 : decode cX8_laysMatch 305 = .ok (.iinc 3 (-1), 3) := by decide +kernel
theorem dX8_laysMatch_308 : decode cX8_laysMatch 308 = .ok (.goto (-110), 3) := by decide +kernel
theorem dX8_laysMatch_311 : decode cX8_laysMatch 311 = .ok (.iload_n 1, 1) := by decide +kernel
theorem dX8_laysMatch_312 : decode cX8_laysMatch 312 = .ok (.aload_n 0, 1) := by decide +kernel
theorem dX8_laysMatch_313 : decode cX8_laysMatch 313 = .ok (.getfield 55, 3) := by decide +kernel
theorem dX8_laysMatch_316 : decode cX8_laysMatch 316 = .ok (.iload_n 2, 1) := by decide +kernel
theorem dX8_laysMatch_317 : decode cX8_laysMatch 317 = .ok (.iaload, 1) := by decide +kernel
theorem dX8_laysMatch_318 : decode cX8_laysMatch 318 = .ok (.iconst (-1), 1) := by decide +kernel
theorem dX8_laysMatch_319 : decode cX8_laysMatch 319 = .ok (.if_icmp .ne 7, 3) := by decide +kernel
theorem dX8_laysMatch_322 : decode cX8_laysMatch 322 = .ok (.iconst 0, 1) := by decide +kernel
theorem dX8_laysMatch_323 : decode cX8_laysMatch 323 = .ok (.goto 11, 3) := by decide +kernel
theorem dX8_laysMatch_326 : decode cX8_laysMatch 326 = .ok (.iconst 1, 1) := by decide +kernel
theorem dX8_laysMatch_327 : decode cX8_laysMatch 327 = .ok (.aload_n 0, 1) := by decide +kernel
theorem dX8_laysMatch_328 : decode cX8_laysMatch 328 = .ok (.getfield 55, 3) := by decide +kernel
theorem dX8_laysMatch_331 : decode cX8_laysMatch 331 = .ok (.iload_n 2, 1) := by decide +kernel
theorem dX8_laysMatch_332 : decode cX8_laysMatch 332 = .ok (.iaload, 1) := by decide +kernel
theorem dX8_laysMatch_333 : decode cX8_laysMatch 333 = .ok (.ishl, 1) := by decide +kernel
theorem dX8_laysMatch_334 : decode cX8_laysMatch 334 = .ok (.ior, 1) := by decide +kernel
theorem dX8_laysMatch_335 : decode cX8_laysMatch 335 = .ok (.istore_n 1, 1) := by decide +kernel
theorem dX8_laysMatch_336 : decode cX8_laysMatch 336 = .ok (.iinc 2 1, 3) := by decide +kernel
theorem dX8_laysMatch_339 : decode cX8_laysMatch 339 = .ok (.goto (-161), 3) := by decide +kernel
theorem dX8_laysMatch_342 : decode cX8_laysMatch 342 = .ok (.return_, 1) := by decide +kernel
theorem dX8_matchAt_0 : decode cX8_matchAt 0 = .ok (.aload_n 0, 1) := by decide +kernel
theorem dX8_matchAt_1 : decode cX8_matchAt 1 = .ok (.invokevirtual 216, 3) := by decide +kernel
theorem dX8_matchAt_4 : decode cX8_matchAt 4 = .ok (.aload_n 0, 1) := by decide +kernel
theorem dX8_matchAt_5 : decode cX8_matchAt 5 = .ok (.getfield 106, 3) := by decide +kernel
theorem dX8_matchAt_8 : decode cX8_matchAt 8 = .ok (.ifCond .ne 7, 3) := by decide +kernel
theorem dX8_matchAt_11 : decode cX8_matchAt 11 = .ok (.iconst 0, 1) := by decide +kernel
theorem dX8_matchAt_12 : decode cX8_matchAt 12 = .ok (.goto 9, 3) := by decide +kernel
theorem dX8_matchAt_15 : decode cX8_matchAt 15 = .ok (.aload_n 0, 1) := by decide +kernel
theorem dX8_matchAt_16 : decode cX8_matchAt 16 = .ok (.getfield 52, 3) := by decide +kernel
theorem dX8_matchAt_19 : decode cX8_matchAt 19 = .ok (.iconst 0, 1) := by decide +kernel
theorem dX8_matchAt_20 : decode cX8_matchAt 20 = .ok (.iaload, 1) := by decide +kernel
theorem dX8_matchAt_21 : decode cX8_matchAt 21 = .ok (.istore_n 2, 1) := by decide +kernel
theorem dX8_matchAt_22 : decode cX8_matchAt 22 = .ok (.iload_n 1, 1) := by decide +kernel
theorem dX8_matchAt_23 : decode cX8_matchAt 23 = .ok (.bipush (-2), 2) := by decide +kernel
theorem dX8_matchAt_25 : decode cX8_matchAt 25 = .ok (.if_icmp .ne 11, 3) := by decide +kernel
theorem dX8_matchAt_28 : decode cX8_matchAt 28 = .ok (.iload_n 2, 1) := by decide +kernel
theorem dX8_matchAt_29 : decode cX8_matchAt 29 = .ok (.sipush 1000, 3) := by decide +kernel
theorem dX8_matchAt_32 : decode cX8_matchAt 32 = .ok (.idiv, 1) := by decide +kernel
theorem dX8_matchAt_33 : decode cX8_matchAt 33 = .ok (.goto 22, 3) := by decide +kernel
theorem dX8_matchAt_36 : decode cX8_matchAt 36 = .ok (.iload_n 1, 1) := by decide +kernel
theorem dX8_matchAt_37 : decode cX8_matchAt 37 = .ok (.iconst (-1), 1) := by decide +kernel
theorem dX8_matchAt_38 : decode cX8_matchAt 38 = .ok (.if_icmp .ne 11, 3) := by decide +kernel
theorem dX8_matchAt_41 : decode cX8_matchAt 41 = .ok (.iload_n 2, 1) := by decide +kernel
theorem dX8_matchAt_42 : decode cX8_matchAt 42 = .ok (.sipush 1000, 3) := by decide +kernel
theorem dX8_matchAt_45 : decode cX8_matchAt 45 = .ok (.irem, 1) := by decide +kernel
theorem dX8_matchAt_46 : decode cX8_matchAt 46 = .ok (.goto 9, 3) := by decide +kernel
theorem dX8_matchAt_49 : decode cX8_matchAt 49 = .ok (.aload_n 0, 1) := by decide +kernel
theorem dX8_matchAt_50 : decode cX8_matchAt 50 = .ok (.getfield 55, 3) := by decide +kernel
theorem dX8_matchAt_53 : decode cX8_matchAt 53 = .ok (.iload_n 1, 1) := by decide +kernel
theorem dX8_matchAt_54 : decode cX8_matchAt 54 = .ok (.iaload, 1) := by decide +kernel
theorem dX8_matchAt_55 : decode cX8_matchAt 55 = .ok (.ireturn, 1) := by decide +kernel
theorem dX8_match_0 : decode cX8_match 0 = .ok (.iload_n 1, 1) := by decide +kernel
theorem dX8_match_1 : decode cX8_match 1 = .ok (.bipush (-2), 2) := by decide +kernel
theorem dX8_match_3 : decode cX8_match 3 = .ok (.bipush 7, 2) := by decide +kernel
theorem dX8_match_5 : decode cX8_match 5 = .ok (.invokestatic 98, 3) := by decide +kernel
theorem dX8_match_8 : decode cX8_match 8 = .ok (.ifCond .eq 11, 3) := by decide +kernel
theorem dX8_match_11 : decode cX8_match 11 = .ok (.aload_n 0, 1) := by decide +kernel
theorem dX8_match_12 : decode cX8_match 12 = .ok (.iload_n 1, 1) := by decide +kernel
theorem dX8_match_13 : decode cX8_match 13 = .ok (.invokevirtual 219, 3) := by decide +kernel
theorem dX8_match_16 : decode cX8_match 16 = .ok (.goto 5, 3) := by decide +kernel
theorem dX8_match_19 : decode cX8_match 19 = .ok (.bipush (-2), 2) := by decide +kernel
theorem dX8_match_21 : decode cX8_match 21 = .ok (.ireturn, 1) := by decide +kernel
theorem dX8_askOf_0 : decode cX8_askOf 0 = .ok (.iconst (-1), 1) := by decide +kernel
theorem dX8_askOf_1 : decode cX8_askOf 1 = .ok (.istore_n 2, 1) := by decide +kernel
theorem dX8_askOf_2 : decode cX8_askOf 2 = .ok (.iconst 0, 1) := by decide +kernel
theorem dX8_askOf_3 : decode cX8_askOf 3 = .ok (.istore_n 3, 1) := by decide +kernel
theorem dX8_askOf_4 : decode cX8_askOf 4 = .ok (.iconst 0, 1) := by decide +kernel
theorem dX8_askOf_5 : decode cX8_askOf 5 = .ok (.istore 4, 2) := by decide +kernel
theorem dX8_askOf_7 : decode cX8_askOf 7 = .ok (.iload 4, 2) := by decide +kernel
theorem dX8_askOf_9 : decode cX8_askOf 9 = .ok (.iconst 4, 1) := by decide +kernel
theorem dX8_askOf_10 : decode cX8_askOf 10 = .ok (.if_icmp .ge 175, 3) := by decide +kernel
theorem dX8_askOf_13 : decode cX8_askOf 13 = .ok (.iconst 0, 1) := by decide +kernel
theorem dX8_askOf_14 : decode cX8_askOf 14 = .ok (.istore 5, 2) := by decide +kernel
theorem dX8_askOf_16 : decode cX8_askOf 16 = .ok (.iconst 0, 1) := by decide +kernel
theorem dX8_askOf_17 : decode cX8_askOf 17 = .ok (.istore 6, 2) := by decide +kernel
theorem dX8_askOf_19 : decode cX8_askOf 19 = .ok (.iconst 0, 1) := by decide +kernel
theorem dX8_askOf_20 : decode cX8_askOf 20 = .ok (.istore 7, 2) := by decide +kernel
theorem dX8_askOf_22 : decode cX8_askOf 22 = .ok (.iload 7, 2) := by decide +kernel
theorem dX8_askOf_24 : decode cX8_askOf 24 = .ok (.aload_n 0, 1) := by decide +kernel
theorem dX8_askOf_25 : decode cX8_askOf 25 = .ok (.getfield 106, 3) := by decide +kernel
theorem dX8_askOf_28 : decode cX8_askOf 28 = .ok (.if_icmp .ge 79, 3) := by decide +kernel
theorem dX8_askOf_31 : decode cX8_askOf 31 = .ok (.iload 5, 2) := by decide +kernel
theorem dX8_askOf_33 : decode cX8_askOf 33 = .ok (.aload_n 0, 1) := by decide +kernel
theorem dX8_askOf_34 : decode cX8_askOf 34 = .ok (.iload_n 1, 1) := by decide +kernel
theorem dX8_askOf_35 : decode cX8_askOf 35 = .ok (.iload 7, 2) := by decide +kernel
theorem dX8_askOf_37 : decode cX8_askOf 37 = .ok (.invokevirtual 160, 3) := by decide +kernel
theorem dX8_askOf_40 : decode cX8_askOf 40 = .ok (.ifCond .eq 22, 3) := by decide +kernel
theorem dX8_askOf_43 : decode cX8_askOf 43 = .ok (.aload_n 0, 1) := by decide +kernel
theorem dX8_askOf_44 : decode cX8_askOf 44 = .ok (.getfield 16, 3) := by decide +kernel
theorem dX8_askOf_47 : decode cX8_askOf 47 = .ok (.iload 7, 2) := by decide +kernel
theorem dX8_askOf_49 : decode cX8_askOf 49 = .ok (.iaload, 1) := by decide +kernel
theorem dX8_askOf_50 : decode cX8_askOf 50 = .ok (.iload 4, 2) := by decide +kernel
theorem dX8_askOf_52 : decode cX8_askOf 52 = .ok (.invokestatic 204, 3) := by decide +kernel
theorem dX8_askOf_55 : decode cX8_askOf 55 = .ok (.ifCond .ne 7, 3) := by decide +kernel
theorem dX8_askOf_58 : decode cX8_askOf 58 = .ok (.iconst 1, 1) := by decide +kernel
theorem dX8_askOf_59 : decode cX8_askOf 59 = .ok (.goto 4, 3) := by decide +kernel
theorem dX8_askOf_62 : decode cX8_askOf 62 = .ok (.iconst 0, 1) := by decide +kernel
theorem dX8_askOf_63 : decode cX8_askOf 63 = .ok (.iadd, 1) := by decide +kernel
theorem dX8_askOf_64 : decode cX8_askOf 64 = .ok (.istore 5, 2) := by decide +kernel
theorem dX8_askOf_66 : decode cX8_askOf 66 = .ok (.iload 6, 2) := by decide +kernel
theorem dX8_askOf_68 : decode cX8_askOf 68 = .ok (.aload_n 0, 1) := by decide +kernel
theorem dX8_askOf_69 : decode cX8_askOf 69 = .ok (.iload_n 1, 1) := by decide +kernel
theorem dX8_askOf_70 : decode cX8_askOf 70 = .ok (.iload 7, 2) := by decide +kernel
theorem dX8_askOf_72 : decode cX8_askOf 72 = .ok (.invokevirtual 160, 3) := by decide +kernel
theorem dX8_askOf_75 : decode cX8_askOf 75 = .ok (.ifCond .eq 22, 3) := by decide +kernel
theorem dX8_askOf_78 : decode cX8_askOf 78 = .ok (.aload_n 0, 1) := by decide +kernel
theorem dX8_askOf_79 : decode cX8_askOf 79 = .ok (.getfield 16, 3) := by decide +kernel
theorem dX8_askOf_82 : decode cX8_askOf 82 = .ok (.iload 7, 2) := by decide +kernel
theorem dX8_askOf_84 : decode cX8_askOf 84 = .ok (.iaload, 1) := by decide +kernel
theorem dX8_askOf_85 : decode cX8_askOf 85 = .ok (.iload 4, 2) := by decide +kernel
theorem dX8_askOf_87 : decode cX8_askOf 87 = .ok (.invokestatic 204, 3) := by decide +kernel
theorem dX8_askOf_90 : decode cX8_askOf 90 = .ok (.ifCond .eq 7, 3) := by decide +kernel
theorem dX8_askOf_93 : decode cX8_askOf 93 = .ok (.iconst 1, 1) := by decide +kernel
theorem dX8_askOf_94 : decode cX8_askOf 94 = .ok (.goto 4, 3) := by decide +kernel
theorem dX8_askOf_97 : decode cX8_askOf 97 = .ok (.iconst 0, 1) := by decide +kernel
theorem dX8_askOf_98 : decode cX8_askOf 98 = .ok (.iadd, 1) := by decide +kernel
theorem dX8_askOf_99 : decode cX8_askOf 99 = .ok (.istore 6, 2) := by decide +kernel
theorem dX8_askOf_101 : decode cX8_askOf 101 = .ok (.iinc 7 1, 3) := by decide +kernel
theorem dX8_askOf_104 : decode cX8_askOf 104 = .ok (.goto (-82), 3) := by decide +kernel
theorem dX8_askOf_107 : decode cX8_askOf 107 = .ok (.iload 5, 2) := by decide +kernel
theorem dX8_askOf_109 : decode cX8_askOf 109 = .ok (.iload 6, 2) := by decide +kernel
theorem dX8_askOf_111 : decode cX8_askOf 111 = .ok (.if_icmp .le 8, 3) := by decide +kernel
theorem dX8_askOf_114 : decode cX8_askOf 114 = .ok (.iload 5, 2) := by decide +kernel
theorem dX8_askOf_116 : decode cX8_askOf 116 = .ok (.goto 5, 3) := by decide +kernel
theorem dX8_askOf_119 : decode cX8_askOf 119 = .ok (.iload 6, 2) := by decide +kernel
theorem dX8_askOf_121 : decode cX8_askOf 121 = .ok (.istore 7, 2) := by decide +kernel
theorem dX8_askOf_123 : decode cX8_askOf 123 = .ok (.aload_n 0, 1) := by decide +kernel
theorem dX8_askOf_124 : decode cX8_askOf 124 = .ok (.getfield 22, 3) := by decide +kernel
theorem dX8_askOf_127 : decode cX8_askOf 127 = .ok (.iload_n 1, 1) := by decide +kernel
theorem dX8_askOf_128 : decode cX8_askOf 128 = .ok (.iaload, 1) := by decide +kernel
theorem dX8_askOf_129 : decode cX8_askOf 129 = .ok (.iload 4, 2) := by decide +kernel
theorem dX8_askOf_131 : decode cX8_askOf 131 = .ok (.invokestatic 204, 3) := by decide +kernel
theorem dX8_askOf_134 : decode cX8_askOf 134 = .ok (.ifCond .ne 18, 3) := by decide +kernel
theorem dX8_askOf_137 : decode cX8_askOf 137 = .ok (.iload_n 2, 1) := by decide +kernel
theorem dX8_askOf_138 : decode cX8_askOf 138 = .ok (.iconst (-1), 1) := by decide +kernel
theorem dX8_askOf_139 : decode cX8_askOf 139 = .ok (.if_icmp .eq 9, 3) := by decide +kernel
theorem dX8_askOf_142 : decode cX8_askOf 142 = .ok (.iload 7, 2) := by decide +kernel
theorem dX8_askOf_144 : decode cX8_askOf 144 = .ok (.iload_n 3, 1) := by decide +kernel
theorem dX8_askOf_145 : decode cX8_askOf 145 = .ok (.if_icmp .ge 7, 3) := by decide +kernel
theorem dX8_askOf_148 : decode cX8_askOf 148 = .ok (.iconst 1, 1) := by decide +kernel
theorem dX8_askOf_149 : decode cX8_askOf 149 = .ok (.goto 4, 3) := by decide +kernel
theorem dX8_askOf_152 : decode cX8_askOf 152 = .ok (.iconst 0, 1) := by decide +kernel
theorem dX8_askOf_153 : decode cX8_askOf 153 = .ok (.istore 8, 2) := by decide +kernel
theorem dX8_askOf_155 : decode cX8_askOf 155 = .ok (.iload 8, 2) := by decide +kernel
theorem dX8_askOf_157 : decode cX8_askOf 157 = .ok (.ifCond .eq 8, 3) := by decide +kernel
theorem dX8_askOf_160 : decode cX8_askOf 160 = .ok (.iload 4, 2) := by decide +kernel
theorem dX8_askOf_162 : decode cX8_askOf 162 = .ok (.goto 4, 3) := by decide +kernel
theorem dX8_askOf_165 : decode cX8_askOf 165 = .ok (.iload_n 2, 1) := by decide +kernel
theorem dX8_askOf_166 : decode cX8_askOf 166 = .ok (.istore_n 2, 1) := by decide +kernel
theorem dX8_askOf_167 : decode cX8_askOf 167 = .ok (.iload 8, 2) := by decide +kernel
theorem dX8_askOf_169 : decode cX8_askOf 169 = .ok (.ifCond .eq 8, 3) := by decide +kernel
theorem dX8_askOf_172 : decode cX8_askOf 172 = .ok (.iload 7, 2) := by decide +kernel
theorem dX8_askOf_174 : decode cX8_askOf 174 = .ok (.goto 4, 3) := by decide +kernel
theorem dX8_askOf_177 : decode cX8_askOf 177 = .ok (.iload_n 3, 1) := by decide +kernel
theorem dX8_askOf_178 : decode cX8_askOf 178 = .ok (.istore_n 3, 1) := by decide +kernel
theorem dX8_askOf_179 : decode cX8_askOf 179 = .ok (.iinc 4 1, 3) := by decide +kernel
theorem dX8_askOf_182 : decode cX8_askOf 182 = .ok (.goto (-175), 3) := by decide +kernel
theorem dX8_askOf_185 : decode cX8_askOf 185 = .ok (.iload_n 2, 1) := by decide +kernel
theorem dX8_askOf_186 : decode cX8_askOf 186 = .ok (.ireturn, 1) := by decide +kernel
theorem dX8_ask_0 : decode cX8_ask 0 = .ok (.aload_n 0, 1) := by decide +kernel
theorem dX8_ask_1 : decode cX8_ask 1 = .ok (.iload_n 1, 1) := by decide +kernel
theorem dX8_ask_2 : decode cX8_ask 2 = .ok (.invokevirtual 129, 3) := by decide +kernel
theorem dX8_ask_5 : decode cX8_ask 5 = .ok (.ifCond .eq 11, 3) := by decide +kernel
theorem dX8_ask_8 : decode cX8_ask 8 = .ok (.aload_n 0, 1) := by decide +kernel
theorem dX8_ask_9 : decode cX8_ask 9 = .ok (.iload_n 1, 1) := by decide +kernel
theorem dX8_ask_10 : decode cX8_ask 10 = .ok (.invokevirtual 222, 3) := by decide +kernel
theorem dX8_ask_13 : decode cX8_ask 13 = .ok (.goto 5, 3) := by decide +kernel
theorem dX8_ask_16 : decode cX8_ask 16 = .ok (.bipush (-2), 2) := by decide +kernel
theorem dX8_ask_18 : decode cX8_ask 18 = .ok (.ireturn, 1) := by decide +kernel
theorem dX8_lieOf_0 : decode cX8_lieOf 0 = .ok (.iconst (-1), 1) := by decide +kernel
theorem dX8_lieOf_1 : decode cX8_lieOf 1 = .ok (.istore_n 2, 1) := by decide +kernel
theorem dX8_lieOf_2 : decode cX8_lieOf 2 = .ok (.iconst 0, 1) := by decide +kernel
theorem dX8_lieOf_3 : decode cX8_lieOf 3 = .ok (.istore_n 3, 1) := by decide +kernel
theorem dX8_lieOf_4 : decode cX8_lieOf 4 = .ok (.iload_n 3, 1) := by decide +kernel
theorem dX8_lieOf_5 : decode cX8_lieOf 5 = .ok (.bipush 16, 2) := by decide +kernel
theorem dX8_lieOf_7 : decode cX8_lieOf 7 = .ok (.if_icmp .ge 109, 3) := by decide +kernel
theorem dX8_lieOf_10 : decode cX8_lieOf 10 = .ok (.iload_n 3, 1) := by decide +kernel
theorem dX8_lieOf_11 : decode cX8_lieOf 11 = .ok (.invokestatic 164, 3) := by decide +kernel
theorem dX8_lieOf_14 : decode cX8_lieOf 14 = .ok (.aload_n 0, 1) := by decide +kernel
theorem dX8_lieOf_15 : decode cX8_lieOf 15 = .ok (.getfield 89, 3) := by decide +kernel
theorem dX8_lieOf_18 : decode cX8_lieOf 18 = .ok (.if_icmp .lt 7, 3) := by decide +kernel
theorem dX8_lieOf_21 : decode cX8_lieOf 21 = .ok (.iconst 1, 1) := by decide +kernel
theorem dX8_lieOf_22 : decode cX8_lieOf 22 = .ok (.goto 4, 3) := by decide +kernel
theorem dX8_lieOf_25 : decode cX8_lieOf 25 = .ok (.iconst 0, 1) := by decide +kernel
theorem dX8_lieOf_26 : decode cX8_lieOf 26 = .ok (.istore 4, 2) := by decide +kernel
theorem dX8_lieOf_28 : decode cX8_lieOf 28 = .ok (.iconst 0, 1) := by decide +kernel
theorem dX8_lieOf_29 : decode cX8_lieOf 29 = .ok (.istore 5, 2) := by decide +kernel
theorem dX8_lieOf_31 : decode cX8_lieOf 31 = .ok (.iload 5, 2) := by decide +kernel
theorem dX8_lieOf_33 : decode cX8_lieOf 33 = .ok (.aload_n 0, 1) := by decide +kernel
theorem dX8_lieOf_34 : decode cX8_lieOf 34 = .ok (.getfield 106, 3) := by decide +kernel
theorem dX8_lieOf_37 : decode cX8_lieOf 37 = .ok (.if_icmp .ge 46, 3) := by decide +kernel
theorem dX8_lieOf_40 : decode cX8_lieOf 40 = .ok (.iload 4, 2) := by decide +kernel
theorem dX8_lieOf_42 : decode cX8_lieOf 42 = .ok (.ifCond .eq 32, 3) := by decide +kernel
theorem dX8_lieOf_45 : decode cX8_lieOf 45 = .ok (.iload 5, 2) := by decide +kernel
theorem dX8_lieOf_47 : decode cX8_lieOf 47 = .ok (.iload_n 1, 1) := by decide +kernel
theorem dX8_lieOf_48 : decode cX8_lieOf 48 = .ok (.if_icmp .eq 22, 3) := by decide +kernel
theorem dX8_lieOf_51 : decode cX8_lieOf 51 = .ok (.aload_n 0, 1) := by decide +kernel
theorem dX8_lieOf_52 : decode cX8_lieOf 52 = .ok (.getfield 16, 3) := by decide +kernel
theorem dX8_lieOf_55 : decode cX8_lieOf 55 = .ok (.iload 5, 2) := by decide +kernel
theorem dX8_lieOf_57 : decode cX8_lieOf 57 = .ok (.iaload, 1) := by decide +kernel
theorem dX8_lieOf_58 : decode cX8_lieOf 58 = .ok (.aload_n 0, 1) := by decide +kernel
theorem dX8_lieOf_59 : decode cX8_lieOf 59 = .ok (.getfield 16, 3) := by decide +kernel
theorem dX8_lieOf_62 : decode cX8_lieOf 62 = .ok (.iload_n 1, 1) := by decide +kernel
theorem dX8_lieOf_63 : decode cX8_lieOf 63 = .ok (.iaload, 1) := by decide +kernel
theorem dX8_lieOf_64 : decode cX8_lieOf 64 = .ok (.ixor, 1) := by decide +kernel
theorem dX8_lieOf_65 : decode cX8_lieOf 65 = .ok (.iload_n 3, 1) := by decide +kernel
theorem dX8_lieOf_66 : decode cX8_lieOf 66 = .ok (.iand, 1) := by decide +kernel
theorem dX8_lieOf_67 : decode cX8_lieOf 67 = .ok (.ifCond .eq 7, 3) := by decide +kernel
theorem dX8_lieOf_70 : decode cX8_lieOf 70 = .ok (.iconst 1, 1) := by decide +kernel
theorem dX8_lieOf_71 : decode cX8_lieOf 71 = .ok (.goto 4, 3) := by decide +kernel
theorem dX8_lieOf_74 : decode cX8_lieOf 74 = .ok (.iconst 0, 1) := by decide +kernel
theorem dX8_lieOf_75 : decode cX8_lieOf 75 = .ok (.istore 4, 2) := by decide +kernel
theorem dX8_lieOf_77 : decode cX8_lieOf 77 = .ok (.iinc 5 1, 3) := by decide +kernel
theorem dX8_lieOf_80 : decode cX8_lieOf 80 = .ok (.goto (-49), 3) := by decide +kernel
theorem dX8_lieOf_83 : decode cX8_lieOf 83 = .ok (.iload 4, 2) := by decide +kernel
theorem dX8_lieOf_85 : decode cX8_lieOf 85 = .ok (.ifCond .eq 23, 3) := by decide +kernel
theorem dX8_lieOf_88 : decode cX8_lieOf 88 = .ok (.iload_n 2, 1) := by decide +kernel
theorem dX8_lieOf_89 : decode cX8_lieOf 89 = .ok (.iconst (-1), 1) := by decide +kernel
theorem dX8_lieOf_90 : decode cX8_lieOf 90 = .ok (.if_icmp .eq 14, 3) := by decide +kernel
theorem dX8_lieOf_93 : decode cX8_lieOf 93 = .ok (.iload_n 3, 1) := by decide +kernel
theorem dX8_lieOf_94 : decode cX8_lieOf 94 = .ok (.invokestatic 164, 3) := by decide +kernel
theorem dX8_lieOf_97 : decode cX8_lieOf 97 = .ok (.iload_n 2, 1) := by decide +kernel
theorem dX8_lieOf_98 : decode cX8_lieOf 98 = .ok (.invokestatic 164, 3) := by decide +kernel
theorem dX8_lieOf_101 : decode cX8_lieOf 101 = .ok (.if_icmp .ge 7, 3) := by decide +kernel
theorem dX8_lieOf_104 : decode cX8_lieOf 104 = .ok (.iload_n 3, 1) := by decide +kernel
theorem dX8_lieOf_105 : decode cX8_lieOf 105 = .ok (.goto 4, 3) := by decide +kernel
theorem dX8_lieOf_108 : decode cX8_lieOf 108 = .ok (.iload_n 2, 1) := by decide +kernel
theorem dX8_lieOf_109 : decode cX8_lieOf 109 = .ok (.istore_n 2, 1) := by decide +kernel
theorem dX8_lieOf_110 : decode cX8_lieOf 110 = .ok (.iinc 3 1, 3) := by decide +kernel
theorem dX8_lieOf_113 : decode cX8_lieOf 113 = .ok (.goto (-109), 3) := by decide +kernel
theorem dX8_lieOf_116 : decode cX8_lieOf 116 = .ok (.iload_n 2, 1) := by decide +kernel
theorem dX8_lieOf_117 : decode cX8_lieOf 117 = .ok (.ireturn, 1) := by decide +kernel
theorem dX8_lie_0 : decode cX8_lie 0 = .ok (.aload_n 0, 1) := by decide +kernel
theorem dX8_lie_1 : decode cX8_lie 1 = .ok (.iload_n 1, 1) := by decide +kernel
theorem dX8_lie_2 : decode cX8_lie 2 = .ok (.invokevirtual 126, 3) := by decide +kernel
theorem dX8_lie_5 : decode cX8_lie 5 = .ok (.ifCond .eq 11, 3) := by decide +kernel
theorem dX8_lie_8 : decode cX8_lie 8 = .ok (.aload_n 0, 1) := by decide +kernel
theorem dX8_lie_9 : decode cX8_lie 9 = .ok (.iload_n 1, 1) := by decide +kernel
theorem dX8_lie_10 : decode cX8_lie 10 = .ok (.invokevirtual 225, 3) := by decide +kernel
theorem dX8_lie_13 : decode cX8_lie 13 = .ok (.goto 5, 3) := by decide +kernel
theorem dX8_lie_16 : decode cX8_lie 16 = .ok (.bipush (-2), 2) := by decide +kernel
theorem dX8_lie_18 : decode cX8_lie 18 = .ok (.ireturn, 1) := by decide +kernel
theorem dX8_guessBy_0 : decode cX8_guessBy 0 = .ok (.iconst 0, 1) := by decide +kernel
theorem dX8_guessBy_1 : decode cX8_guessBy 1 = .ok (.istore 4, 2) := by decide +kernel
theorem dX8_guessBy_3 : decode cX8_guessBy 3 = .ok (.iconst 0, 1) := by decide +kernel
theorem dX8_guessBy_4 : decode cX8_guessBy 4 = .ok (.istore 5, 2) := by decide +kernel
theorem dX8_guessBy_6 : decode cX8_guessBy 6 = .ok (.iconst 0, 1) := by decide +kernel
theorem dX8_guessBy_7 : decode cX8_guessBy 7 = .ok (.istore 6, 2) := by decide +kernel
theorem dX8_guessBy_9 : decode cX8_guessBy 9 = .ok (.iload 6, 2) := by decide +kernel
theorem dX8_guessBy_11 : decode cX8_guessBy 11 = .ok (.aload_n 0, 1) := by decide +kernel
theorem dX8_guessBy_12 : decode cX8_guessBy 12 = .ok (.getfield 106, 3) := by decide +kernel
theorem dX8_guessBy_15 : decode cX8_guessBy 15 = .ok (.if_icmp .ge 97, 3) := by decide +kernel
theorem dX8_guessBy_18 : decode cX8_guessBy 18 = .ok (.aload_n 0, 1) := by decide +kernel
theorem dX8_guessBy_19 : decode cX8_guessBy 19 = .ok (.getfield 16, 3) := by decide +kernel
theorem dX8_guessBy_22 : decode cX8_guessBy 22 = .ok (.iload 6, 2) := by decide +kernel
theorem dX8_guessBy_24 : decode cX8_guessBy 24 = .ok (.iaload, 1) := by decide +kernel
theorem dX8_guessBy_25 : decode cX8_guessBy 25 = .ok (.aload_n 0, 1) := by decide +kernel
theorem dX8_guessBy_26 : decode cX8_guessBy 26 = .ok (.getfield 16, 3) := by decide +kernel
theorem dX8_guessBy_29 : decode cX8_guessBy 29 = .ok (.iload_n 1, 1) := by decide +kernel
theorem dX8_guessBy_30 : decode cX8_guessBy 30 = .ok (.iaload, 1) := by decide +kernel
theorem dX8_guessBy_31 : decode cX8_guessBy 31 = .ok (.ixor, 1) := by decide +kernel
theorem dX8_guessBy_32 : decode cX8_guessBy 32 = .ok (.iload_n 2, 1) := by decide +kernel
theorem dX8_guessBy_33 : decode cX8_guessBy 33 = .ok (.iconst (-1), 1) := by decide +kernel
theorem dX8_guessBy_34 : decode cX8_guessBy 34 = .ok (.ixor, 1) := by decide +kernel
theorem dX8_guessBy_35 : decode cX8_guessBy 35 = .ok (.iand, 1) := by decide +kernel
theorem dX8_guessBy_36 : decode cX8_guessBy 36 = .ok (.ifCond .ne 70, 3) := by decide +kernel
theorem dX8_guessBy_39 : decode cX8_guessBy 39 = .ok (.iconst 0, 1) := by decide +kernel
theorem dX8_guessBy_40 : decode cX8_guessBy 40 = .ok (.istore 7, 2) := by decide +kernel
theorem dX8_guessBy_42 : decode cX8_guessBy 42 = .ok (.iconst 0, 1) := by decide +kernel
theorem dX8_guessBy_43 : decode cX8_guessBy 43 = .ok (.istore 8, 2) := by decide +kernel
theorem dX8_guessBy_45 : decode cX8_guessBy 45 = .ok (.iload 8, 2) := by decide +kernel
theorem dX8_guessBy_47 : decode cX8_guessBy 47 = .ok (.aload_n 0, 1) := by decide +kernel
theorem dX8_guessBy_48 : decode cX8_guessBy 48 = .ok (.getfield 106, 3) := by decide +kernel
theorem dX8_guessBy_51 : decode cX8_guessBy 51 = .ok (.if_icmp .ge 36, 3) := by decide +kernel
theorem dX8_guessBy_54 : decode cX8_guessBy 54 = .ok (.iload 7, 2) := by decide +kernel
theorem dX8_guessBy_56 : decode cX8_guessBy 56 = .ok (.aload_n 0, 1) := by decide +kernel
theorem dX8_guessBy_57 : decode cX8_guessBy 57 = .ok (.getfield 16, 3) := by decide +kernel
theorem dX8_guessBy_60 : decode cX8_guessBy 60 = .ok (.iload 8, 2) := by decide +kernel
theorem dX8_guessBy_62 : decode cX8_guessBy 62 = .ok (.iaload, 1) := by decide +kernel
theorem dX8_guessBy_63 : decode cX8_guessBy 63 = .ok (.aload_n 0, 1) := by decide +kernel
theorem dX8_guessBy_64 : decode cX8_guessBy 64 = .ok (.getfield 16, 3) := by decide +kernel
theorem dX8_guessBy_67 : decode cX8_guessBy 67 = .ok (.iload 6, 2) := by decide +kernel
theorem dX8_guessBy_69 : decode cX8_guessBy 69 = .ok (.iaload, 1) := by decide +kernel
theorem dX8_guessBy_70 : decode cX8_guessBy 70 = .ok (.if_icmp .ne 7, 3) := by decide +kernel
theorem dX8_guessBy_73 : decode cX8_guessBy 73 = .ok (.iconst 1, 1) := by decide +kernel
theorem dX8_guessBy_74 : decode cX8_guessBy 74 = .ok (.goto 4, 3) := by decide +kernel
theorem dX8_guessBy_77 : decode cX8_guessBy 77 = .ok (.iconst 0, 1) := by decide +kernel
theorem dX8_guessBy_78 : decode cX8_guessBy 78 = .ok (.iadd, 1) := by decide +kernel
theorem dX8_guessBy_79 : decode cX8_guessBy 79 = .ok (.istore 7, 2) := by decide +kernel
theorem dX8_guessBy_81 : decode cX8_guessBy 81 = .ok (.iinc 8 1, 3) := by decide +kernel
theorem dX8_guessBy_84 : decode cX8_guessBy 84 = .ok (.goto (-39), 3) := by decide +kernel
theorem dX8_guessBy_87 : decode cX8_guessBy 87 = .ok (.iload 7, 2) := by decide +kernel
theorem dX8_guessBy_89 : decode cX8_guessBy 89 = .ok (.iload 5, 2) := by decide +kernel
theorem dX8_guessBy_91 : decode cX8_guessBy 91 = .ok (.if_icmp .le 8, 3) := by decide +kernel
theorem dX8_guessBy_94 : decode cX8_guessBy 94 = .ok (.iload 7, 2) := by decide +kernel
theorem dX8_guessBy_96 : decode cX8_guessBy 96 = .ok (.goto 5, 3) := by decide +kernel
theorem dX8_guessBy_99 : decode cX8_guessBy 99 = .ok (.iload 5, 2) := by decide +kernel
theorem dX8_guessBy_101 : decode cX8_guessBy 101 = .ok (.istore 5, 2) := by decide +kernel
theorem dX8_guessBy_103 : decode cX8_guessBy 103 = .ok (.iinc 4 1, 3) := by decide +kernel
theorem dX8_guessBy_106 : decode cX8_guessBy 106 = .ok (.iinc 6 1, 3) := by decide +kernel
theorem dX8_guessBy_109 : decode cX8_guessBy 109 = .ok (.goto (-100), 3) := by decide +kernel
theorem dX8_guessBy_112 : decode cX8_guessBy 112 = .ok (.iload_n 3, 1) := by decide +kernel
theorem dX8_guessBy_113 : decode cX8_guessBy 113 = .ok (.ifCond .ne 8, 3) := by decide +kernel
theorem dX8_guessBy_116 : decode cX8_guessBy 116 = .ok (.iload 4, 2) := by decide +kernel
theorem dX8_guessBy_118 : decode cX8_guessBy 118 = .ok (.goto 5, 3) := by decide +kernel
theorem dX8_guessBy_121 : decode cX8_guessBy 121 = .ok (.iload 5, 2) := by decide +kernel
theorem dX8_guessBy_123 : decode cX8_guessBy 123 = .ok (.ireturn, 1) := by decide +kernel
theorem dX8_guess_0 : decode cX8_guess 0 = .ok (.aload_n 0, 1) := by decide +kernel
theorem dX8_guess_1 : decode cX8_guess 1 = .ok (.iload_n 1, 1) := by decide +kernel
theorem dX8_guess_2 : decode cX8_guess 2 = .ok (.invokevirtual 126, 3) := by decide +kernel
theorem dX8_guess_5 : decode cX8_guess 5 = .ok (.ifCond .eq 41, 3) := by decide +kernel
theorem dX8_guess_8 : decode cX8_guess 8 = .ok (.iload_n 2, 1) := by decide +kernel
theorem dX8_guess_9 : decode cX8_guess 9 = .ok (.iconst 0, 1) := by decide +kernel
theorem dX8_guess_10 : decode cX8_guess 10 = .ok (.iconst 1, 1) := by decide +kernel
theorem dX8_guess_11 : decode cX8_guess 11 = .ok (.invokestatic 98, 3) := by decide +kernel
theorem dX8_guess_14 : decode cX8_guess 14 = .ok (.ifCond .eq 32, 3) := by decide +kernel
theorem dX8_guess_17 : decode cX8_guess 17 = .ok (.aload_n 0, 1) := by decide +kernel
theorem dX8_guess_18 : decode cX8_guess 18 = .ok (.iload_n 1, 1) := by decide +kernel
theorem dX8_guess_19 : decode cX8_guess 19 = .ok (.aload_n 0, 1) := by decide +kernel
theorem dX8_guess_20 : decode cX8_guess 20 = .ok (.getfield 136, 3) := by decide +kernel
theorem dX8_guess_23 : decode cX8_guess 23 = .ok (.iconst 1, 1) := by decide +kernel
theorem dX8_guess_24 : decode cX8_guess 24 = .ok (.invokevirtual 228, 3) := by decide +kernel
theorem dX8_guess_27 : decode cX8_guess 27 = .ok (.i2l, 1) := by decide +kernel
theorem dX8_guess_28 : decode cX8_guess 28 = .ok (.aload_n 0, 1) := by decide +kernel
theorem dX8_guess_29 : decode cX8_guess 29 = .ok (.iload_n 1, 1) := by decide +kernel
theorem dX8_guess_30 : decode cX8_guess 30 = .ok (.aload_n 0, 1) := by decide +kernel
theorem dX8_guess_31 : decode cX8_guess 31 = .ok (.getfield 136, 3) := by decide +kernel
theorem dX8_guess_34 : decode cX8_guess 34 = .ok (.iconst 0, 1) := by decide +kernel
theorem dX8_guess_35 : decode cX8_guess 35 = .ok (.invokevirtual 228, 3) := by decide +kernel
theorem dX8_guess_38 : decode cX8_guess 38 = .ok (.i2l, 1) := by decide +kernel
theorem dX8_guess_39 : decode cX8_guess 39 = .ok (.iload_n 2, 1) := by decide +kernel
theorem dX8_guess_40 : decode cX8_guess 40 = .ok (.invokestatic 231, 3) := by decide +kernel
theorem dX8_guess_43 : decode cX8_guess 43 = .ok (.goto 8, 3) := by decide +kernel
theorem dX8_guess_46 : decode cX8_guess 46 = .ok (.bipush (-2), 2) := by decide +kernel
theorem dX8_guess_48 : decode cX8_guess 48 = .ok (.invokestatic 235, 3) := by decide +kernel
theorem dX8_guess_51 : decode cX8_guess 51 = .ok (.lreturn, 1) := by decide +kernel
theorem dX8_guardOf_0 : decode cX8_guardOf 0 = .ok (.aload_n 0, 1) := by decide +kernel
theorem dX8_guardOf_1 : decode cX8_guardOf 1 = .ok (.invokevirtual 123, 3) := by decide +kernel
theorem dX8_guardOf_4 : decode cX8_guardOf 4 = .ok (.iconst (-1), 1) := by decide +kernel
theorem dX8_guardOf_5 : decode cX8_guardOf 5 = .ok (.istore_n 2, 1) := by decide +kernel
theorem dX8_guardOf_6 : decode cX8_guardOf 6 = .ok (.iconst 0, 1) := by decide +kernel
theorem dX8_guardOf_7 : decode cX8_guardOf 7 = .ok (.istore_n 3, 1) := by decide +kernel
theorem dX8_guardOf_8 : decode cX8_guardOf 8 = .ok (.iload_n 3, 1) := by decide +kernel
theorem dX8_guardOf_9 : decode cX8_guardOf 9 = .ok (.bipush 16, 2) := by decide +kernel
theorem dX8_guardOf_11 : decode cX8_guardOf 11 = .ok (.if_icmp .ge 93, 3) := by decide +kernel
theorem dX8_guardOf_14 : decode cX8_guardOf 14 = .ok (.iconst 1, 1) := by decide +kernel
theorem dX8_guardOf_15 : decode cX8_guardOf 15 = .ok (.istore 4, 2) := by decide +kernel
theorem dX8_guardOf_17 : decode cX8_guardOf 17 = .ok (.iconst 0, 1) := by decide +kernel
theorem dX8_guardOf_18 : decode cX8_guardOf 18 = .ok (.istore 5, 2) := by decide +kernel
theorem dX8_guardOf_20 : decode cX8_guardOf 20 = .ok (.iload 5, 2) := by decide +kernel
theorem dX8_guardOf_22 : decode cX8_guardOf 22 = .ok (.aload_n 0, 1) := by decide +kernel
theorem dX8_guardOf_23 : decode cX8_guardOf 23 = .ok (.getfield 106, 3) := by decide +kernel
theorem dX8_guardOf_26 : decode cX8_guardOf 26 = .ok (.if_icmp .ge 45, 3) := by decide +kernel
theorem dX8_guardOf_29 : decode cX8_guardOf 29 = .ok (.iload 4, 2) := by decide +kernel
theorem dX8_guardOf_31 : decode cX8_guardOf 31 = .ok (.ifCond .eq 31, 3) := by decide +kernel
theorem dX8_guardOf_34 : decode cX8_guardOf 34 = .ok (.bipush 16, 2) := by decide +kernel
theorem dX8_guardOf_36 : decode cX8_guardOf 36 = .ok (.aload_n 0, 1) := by decide +kernel
theorem dX8_guardOf_37 : decode cX8_guardOf 37 = .ok (.iload 5, 2) := by decide +kernel
theorem dX8_guardOf_39 : decode cX8_guardOf 39 = .ok (.iload_n 3, 1) := by decide +kernel
theorem dX8_guardOf_40 : decode cX8_guardOf 40 = .ok (.iconst 1, 1) := by decide +kernel
theorem dX8_guardOf_41 : decode cX8_guardOf 41 = .ok (.invokevirtual 228, 3) := by decide +kernel
theorem dX8_guardOf_44 : decode cX8_guardOf 44 = .ok (.imul, 1) := by decide +kernel
theorem dX8_guardOf_45 : decode cX8_guardOf 45 = .ok (.iload_n 1, 1) := by decide +kernel
theorem dX8_guardOf_46 : decode cX8_guardOf 46 = .ok (.aload_n 0, 1) := by decide +kernel
theorem dX8_guardOf_47 : decode cX8_guardOf 47 = .ok (.iload 5, 2) := by decide +kernel
theorem dX8_guardOf_49 : decode cX8_guardOf 49 = .ok (.iload_n 3, 1) := by decide +kernel
theorem dX8_guardOf_50 : decode cX8_guardOf 50 = .ok (.iconst 0, 1) := by decide +kernel
theorem dX8_guardOf_51 : decode cX8_guardOf 51 = .ok (.invokevirtual 228, 3) := by decide +kernel
theorem dX8_guardOf_54 : decode cX8_guardOf 54 = .ok (.imul, 1) := by decide +kernel
theorem dX8_guardOf_55 : decode cX8_guardOf 55 = .ok (.if_icmp .gt 7, 3) := by decide +kernel
theorem dX8_guardOf_58 : decode cX8_guardOf 58 = .ok (.iconst 1, 1) := by decide +kernel
theorem dX8_guardOf_59 : decode cX8_guardOf 59 = .ok (.goto 4, 3) := by decide +kernel
theorem dX8_guardOf_62 : decode cX8_guardOf 62 = .ok (.iconst 0, 1) := by decide +kernel
theorem dX8_guardOf_63 : decode cX8_guardOf 63 = .ok (.istore 4, 2) := by decide +kernel
theorem dX8_guardOf_65 : decode cX8_guardOf 65 = .ok (.iinc 5 1, 3) := by decide +kernel
theorem dX8_guardOf_68 : decode cX8_guardOf 68 = .ok (.goto (-48), 3) := by decide +kernel
theorem dX8_guardOf_71 : decode cX8_guardOf 71 = .ok (.iload 4, 2) := by decide +kernel
theorem dX8_guardOf_73 : decode cX8_guardOf 73 = .ok (.ifCond .eq 23, 3) := by decide +kernel
theorem dX8_guardOf_76 : decode cX8_guardOf 76 = .ok (.iload_n 2, 1) := by decide +kernel
theorem dX8_guardOf_77 : decode cX8_guardOf 77 = .ok (.iconst (-1), 1) := by decide +kernel
theorem dX8_guardOf_78 : decode cX8_guardOf 78 = .ok (.if_icmp .eq 14, 3) := by decide +kernel
theorem dX8_guardOf_81 : decode cX8_guardOf 81 = .ok (.iload_n 3, 1) := by decide +kernel
theorem dX8_guardOf_82 : decode cX8_guardOf 82 = .ok (.invokestatic 164, 3) := by decide +kernel
theorem dX8_guardOf_85 : decode cX8_guardOf 85 = .ok (.iload_n 2, 1) := by decide +kernel
theorem dX8_guardOf_86 : decode cX8_guardOf 86 = .ok (.invokestatic 164, 3) := by decide +kernel
theorem dX8_guardOf_89 : decode cX8_guardOf 89 = .ok (.if_icmp .ge 7, 3) := by decide +kernel
theorem dX8_guardOf_92 : decode cX8_guardOf 92 = .ok (.iload_n 3, 1) := by decide +kernel
theorem dX8_guardOf_93 : decode cX8_guardOf 93 = .ok (.goto 4, 3) := by decide +kernel
theorem dX8_guardOf_96 : decode cX8_guardOf 96 = .ok (.iload_n 2, 1) := by decide +kernel
theorem dX8_guardOf_97 : decode cX8_guardOf 97 = .ok (.istore_n 2, 1) := by decide +kernel
theorem dX8_guardOf_98 : decode cX8_guardOf 98 = .ok (.iinc 3 1, 3) := by decide +kernel
theorem dX8_guardOf_101 : decode cX8_guardOf 101 = .ok (.goto (-93), 3) := by decide +kernel
theorem dX8_guardOf_104 : decode cX8_guardOf 104 = .ok (.iload_n 2, 1) := by decide +kernel
theorem dX8_guardOf_105 : decode cX8_guardOf 105 = .ok (.ireturn, 1) := by decide +kernel
theorem dX8_guard_0 : decode cX8_guard 0 = .ok (.iload_n 1, 1) := by decide +kernel
theorem dX8_guard_1 : decode cX8_guard 1 = .ok (.iconst 0, 1) := by decide +kernel
theorem dX8_guard_2 : decode cX8_guard 2 = .ok (.bipush 16, 2) := by decide +kernel
theorem dX8_guard_4 : decode cX8_guard 4 = .ok (.invokestatic 98, 3) := by decide +kernel
theorem dX8_guard_7 : decode cX8_guard 7 = .ok (.ifCond .eq 11, 3) := by decide +kernel
theorem dX8_guard_10 : decode cX8_guard 10 = .ok (.aload_n 0, 1) := by decide +kernel
theorem dX8_guard_11 : decode cX8_guard 11 = .ok (.iload_n 1, 1) := by decide +kernel
theorem dX8_guard_12 : decode cX8_guard 12 = .ok (.invokevirtual 239, 3) := by decide +kernel
theorem dX8_guard_15 : decode cX8_guard 15 = .ok (.goto 5, 3) := by decide +kernel
theorem dX8_guard_18 : decode cX8_guard 18 = .ok (.bipush (-2), 2) := by decide +kernel
theorem dX8_guard_20 : decode cX8_guard 20 = .ok (.ireturn, 1) := by decide +kernel
theorem dX8_shelvesOf_0 : decode cX8_shelvesOf 0 = .ok (.aload_n 0, 1) := by decide +kernel
theorem dX8_shelvesOf_1 : decode cX8_shelvesOf 1 = .ok (.invokevirtual 123, 3) := by decide +kernel
theorem dX8_shelvesOf_4 : decode cX8_shelvesOf 4 = .ok (.aload_n 0, 1) := by decide +kernel
theorem dX8_shelvesOf_5 : decode cX8_shelvesOf 5 = .ok (.getfield 106, 3) := by decide +kernel
theorem dX8_shelvesOf_8 : decode cX8_shelvesOf 8 = .ok (.bipush 6, 2) := by decide +kernel
theorem dX8_shelvesOf_10 : decode cX8_shelvesOf 10 = .ok (.if_icmp .ge 10, 3) := by decide +kernel
theorem dX8_shelvesOf_13 : decode cX8_shelvesOf 13 = .ok (.aload_n 0, 1) := by decide +kernel
theorem dX8_shelvesOf_14 : decode cX8_shelvesOf 14 = .ok (.getfield 106, 3) := by decide +kernel
theorem dX8_shelvesOf_17 : decode cX8_shelvesOf 17 = .ok (.goto 5, 3) := by decide +kernel
theorem dX8_shelvesOf_20 : decode cX8_shelvesOf 20 = .ok (.bipush 6, 2) := by decide +kernel
theorem dX8_shelvesOf_22 : decode cX8_shelvesOf 22 = .ok (.istore_n 2, 1) := by decide +kernel
theorem dX8_shelvesOf_23 : decode cX8_shelvesOf 23 = .ok (.iconst 0, 1) := by decide +kernel
theorem dX8_shelvesOf_24 : decode cX8_shelvesOf 24 = .ok (.istore_n 3, 1) := by decide +kernel
theorem dX8_shelvesOf_25 : decode cX8_shelvesOf 25 = .ok (.iconst (-1), 1) := by decide +kernel
theorem dX8_shelvesOf_26 : decode cX8_shelvesOf 26 = .ok (.istore 4, 2) := by decide +kernel
theorem dX8_shelvesOf_28 : decode cX8_shelvesOf 28 = .ok (.iconst 0, 1) := by decide +kernel
theorem dX8_shelvesOf_29 : decode cX8_shelvesOf 29 = .ok (.istore 5, 2) := by decide +kernel
theorem dX8_shelvesOf_31 : decode cX8_shelvesOf 31 = .ok (.iload 5, 2) := by decide +kernel
theorem dX8_shelvesOf_33 : decode cX8_shelvesOf 33 = .ok (.iload_n 2, 1) := by decide +kernel
theorem dX8_shelvesOf_34 : decode cX8_shelvesOf 34 = .ok (.if_icmp .ge 107, 3) := by decide +kernel
theorem dX8_shelvesOf_37 : decode cX8_shelvesOf 37 = .ok (.iconst 0, 1) := by decide +kernel
theorem dX8_shelvesOf_38 : decode cX8_shelvesOf 38 = .ok (.istore 6, 2) := by decide +kernel
theorem dX8_shelvesOf_40 : decode cX8_shelvesOf 40 = .ok (.aload_n 0, 1) := by decide +kernel
theorem dX8_shelvesOf_41 : decode cX8_shelvesOf 41 = .ok (.iconst 1, 1) := by decide +kernel
theorem dX8_shelvesOf_42 : decode cX8_shelvesOf 42 = .ok (.iload 5, 2) := by decide +kernel
theorem dX8_shelvesOf_44 : decode cX8_shelvesOf 44 = .ok (.invokevirtual 213, 3) := by decide +kernel
theorem dX8_shelvesOf_47 : decode cX8_shelvesOf 47 = .ok (.invokestatic 164, 3) := by decide +kernel
theorem dX8_shelvesOf_50 : decode cX8_shelvesOf 50 = .ok (.istore 7, 2) := by decide +kernel
theorem dX8_shelvesOf_52 : decode cX8_shelvesOf 52 = .ok (.iconst 0, 1) := by decide +kernel
theorem dX8_shelvesOf_53 : decode cX8_shelvesOf 53 = .ok (.istore 8, 2) := by decide +kernel
theorem dX8_shelvesOf_55 : decode cX8_shelvesOf 55 = .ok (.iload 8, 2) := by decide +kernel
theorem dX8_shelvesOf_57 : decode cX8_shelvesOf 57 = .ok (.iload_n 2, 1) := by decide +kernel
theorem dX8_shelvesOf_58 : decode cX8_shelvesOf 58 = .ok (.if_icmp .ge 52, 3) := by decide +kernel
theorem dX8_shelvesOf_61 : decode cX8_shelvesOf 61 = .ok (.aload_n 0, 1) := by decide +kernel
theorem dX8_shelvesOf_62 : decode cX8_shelvesOf 62 = .ok (.iconst 1, 1) := by decide +kernel
theorem dX8_shelvesOf_63 : decode cX8_shelvesOf 63 = .ok (.iload 8, 2) := by decide +kernel
theorem dX8_shelvesOf_65 : decode cX8_shelvesOf 65 = .ok (.invokevirtual 213, 3) := by decide +kernel
theorem dX8_shelvesOf_68 : decode cX8_shelvesOf 68 = .ok (.invokestatic 164, 3) := by decide +kernel
theorem dX8_shelvesOf_71 : decode cX8_shelvesOf 71 = .ok (.istore 9, 2) := by decide +kernel
theorem dX8_shelvesOf_73 : decode cX8_shelvesOf 73 = .ok (.iload 6, 2) := by decide +kernel
theorem dX8_shelvesOf_75 : decode cX8_shelvesOf 75 = .ok (.iload 9, 2) := by decide +kernel
theorem dX8_shelvesOf_77 : decode cX8_shelvesOf 77 = .ok (.iload 7, 2) := by decide +kernel
theorem dX8_shelvesOf_79 : decode cX8_shelvesOf 79 = .ok (.if_icmp .gt 17, 3) := by decide +kernel
theorem dX8_shelvesOf_82 : decode cX8_shelvesOf 82 = .ok (.iload 9, 2) := by decide +kernel
theorem dX8_shelvesOf_84 : decode cX8_shelvesOf 84 = .ok (.iload 7, 2) := by decide +kernel
theorem dX8_shelvesOf_86 : decode cX8_shelvesOf 86 = .ok (.if_icmp .ne 14, 3) := by decide +kernel
theorem dX8_shelvesOf_89 : decode cX8_shelvesOf 89 = .ok (.iload 8, 2) := by decide +kernel
theorem dX8_shelvesOf_91 : decode cX8_shelvesOf 91 = .ok (.iload 5, 2) := by decide +kernel
theorem dX8_shelvesOf_93 : decode cX8_shelvesOf 93 = .ok (.if_icmp .ge 7, 3) := by decide +kernel
theorem dX8_shelvesOf_96 : decode cX8_shelvesOf 96 = .ok (.iconst 1, 1) := by decide +kernel
theorem dX8_shelvesOf_97 : decode cX8_shelvesOf 97 = .ok (.goto 4, 3) := by decide +kernel
theorem dX8_shelvesOf_100 : decode cX8_shelvesOf 100 = .ok (.iconst 0, 1) := by decide +kernel
theorem dX8_shelvesOf_101 : decode cX8_shelvesOf 101 = .ok (.iadd, 1) := by decide +kernel
theorem dX8_shelvesOf_102 : decode cX8_shelvesOf 102 = .ok (.istore 6, 2) := by decide +kernel
theorem dX8_shelvesOf_104 : decode cX8_shelvesOf 104 = .ok (.iinc 8 1, 3) := by decide +kernel
theorem dX8_shelvesOf_107 : decode cX8_shelvesOf 107 = .ok (.goto (-52), 3) := by decide +kernel
theorem dX8_shelvesOf_110 : decode cX8_shelvesOf 110 = .ok (.iload_n 3, 1) := by decide +kernel
theorem dX8_shelvesOf_111 : decode cX8_shelvesOf 111 = .ok (.iload 6, 2) := by decide +kernel
theorem dX8_shelvesOf_113 : decode cX8_shelvesOf 113 = .ok (.iconst 1, 1) := by decide +kernel
theorem dX8_shelvesOf_114 : decode cX8_shelvesOf 114 = .ok (.iadd, 1) := by decide +kernel
theorem dX8_shelvesOf_115 : decode cX8_shelvesOf 115 = .ok (.iload 7, 2) := by decide +kernel
theorem dX8_shelvesOf_117 : decode cX8_shelvesOf 117 = .ok (.imul, 1) := by decide +kernel
theorem dX8_shelvesOf_118 : decode cX8_shelvesOf 118 = .ok (.iadd, 1) := by decide +kernel
theorem dX8_shelvesOf_119 : decode cX8_shelvesOf 119 = .ok (.istore_n 3, 1) := by decide +kernel
theorem dX8_shelvesOf_120 : decode cX8_shelvesOf 120 = .ok (.iload 6, 2) := by decide +kernel
theorem dX8_shelvesOf_122 : decode cX8_shelvesOf 122 = .ok (.iload_n 1, 1) := by decide +kernel
theorem dX8_shelvesOf_123 : decode cX8_shelvesOf 123 = .ok (.if_icmp .ne 8, 3) := by decide +kernel
theorem dX8_shelvesOf_126 : decode cX8_shelvesOf 126 = .ok (.iload 5, 2) := by decide +kernel
theorem dX8_shelvesOf_128 : decode cX8_shelvesOf 128 = .ok (.goto 5, 3) := by decide +kernel
theorem dX8_shelvesOf_131 : decode cX8_shelvesOf 131 = .ok (.iload 4, 2) := by decide +kernel
theorem dX8_shelvesOf_133 : decode cX8_shelvesOf 133 = .ok (.istore 4, 2) := by decide +kernel
theorem dX8_shelvesOf_135 : decode cX8_shelvesOf 135 = .ok (.iinc 5 1, 3) := by decide +kernel
theorem dX8_shelvesOf_138 : decode cX8_shelvesOf 138 = .ok (.goto (-107), 3) := by decide +kernel
theorem dX8_shelvesOf_141 : decode cX8_shelvesOf 141 = .ok (.iload_n 1, 1) := by decide +kernel
theorem dX8_shelvesOf_142 : decode cX8_shelvesOf 142 = .ok (.iconst (-1), 1) := by decide +kernel
theorem dX8_shelvesOf_143 : decode cX8_shelvesOf 143 = .ok (.if_icmp .ne 7, 3) := by decide +kernel
theorem dX8_shelvesOf_146 : decode cX8_shelvesOf 146 = .ok (.iload_n 3, 1) := by decide +kernel
theorem dX8_shelvesOf_147 : decode cX8_shelvesOf 147 = .ok (.goto 5, 3) := by decide +kernel
theorem dX8_shelvesOf_150 : decode cX8_shelvesOf 150 = .ok (.iload 4, 2) := by decide +kernel
theorem dX8_shelvesOf_152 : decode cX8_shelvesOf 152 = .ok (.ireturn, 1) := by decide +kernel
theorem dX8_shelves_0 : decode cX8_shelves 0 = .ok (.iload_n 1, 1) := by decide +kernel
theorem dX8_shelves_1 : decode cX8_shelves 1 = .ok (.iconst (-1), 1) := by decide +kernel
theorem dX8_shelves_2 : decode cX8_shelves 2 = .ok (.iconst 5, 1) := by decide +kernel
theorem dX8_shelves_3 : decode cX8_shelves 3 = .ok (.invokestatic 98, 3) := by decide +kernel
theorem dX8_shelves_6 : decode cX8_shelves 6 = .ok (.ifCond .eq 11, 3) := by decide +kernel
theorem dX8_shelves_9 : decode cX8_shelves 9 = .ok (.aload_n 0, 1) := by decide +kernel
theorem dX8_shelves_10 : decode cX8_shelves 10 = .ok (.iload_n 1, 1) := by decide +kernel
theorem dX8_shelves_11 : decode cX8_shelves 11 = .ok (.invokevirtual 242, 3) := by decide +kernel
theorem dX8_shelves_14 : decode cX8_shelves 14 = .ok (.goto 5, 3) := by decide +kernel
theorem dX8_shelves_17 : decode cX8_shelves 17 = .ok (.bipush (-2), 2) := by decide +kernel
theorem dX8_shelves_19 : decode cX8_shelves 19 = .ok (.ireturn, 1) := by decide +kernel
theorem dX8_arePair_0 : decode cX8_arePair 0 = .ok (.aload_n 0, 1) := by decide +kernel
theorem dX8_arePair_1 : decode cX8_arePair 1 = .ok (.getfield 16, 3) := by decide +kernel
theorem dX8_arePair_4 : decode cX8_arePair 4 = .ok (.iload_n 1, 1) := by decide +kernel
theorem dX8_arePair_5 : decode cX8_arePair 5 = .ok (.iaload, 1) := by decide +kernel
theorem dX8_arePair_6 : decode cX8_arePair 6 = .ok (.aload_n 0, 1) := by decide +kernel
theorem dX8_arePair_7 : decode cX8_arePair 7 = .ok (.getfield 16, 3) := by decide +kernel
theorem dX8_arePair_10 : decode cX8_arePair 10 = .ok (.iload_n 2, 1) := by decide +kernel
theorem dX8_arePair_11 : decode cX8_arePair 11 = .ok (.iaload, 1) := by decide +kernel
theorem dX8_arePair_12 : decode cX8_arePair 12 = .ok (.ixor, 1) := by decide +kernel
theorem dX8_arePair_13 : decode cX8_arePair 13 = .ok (.invokestatic 164, 3) := by decide +kernel
theorem dX8_arePair_16 : decode cX8_arePair 16 = .ok (.iconst 1, 1) := by decide +kernel
theorem dX8_arePair_17 : decode cX8_arePair 17 = .ok (.if_icmp .ne 7, 3) := by decide +kernel
theorem dX8_arePair_20 : decode cX8_arePair 20 = .ok (.iconst 1, 1) := by decide +kernel
theorem dX8_arePair_21 : decode cX8_arePair 21 = .ok (.goto 4, 3) := by decide +kernel
theorem dX8_arePair_24 : decode cX8_arePair 24 = .ok (.iconst 0, 1) := by decide +kernel
theorem dX8_arePair_25 : decode cX8_arePair 25 = .ok (.ireturn, 1) := by decide +kernel
theorem dX8_laysPairs_0 : decode cX8_laysPairs 0 = .ok (.aload_n 0, 1) := by decide +kernel
theorem dX8_laysPairs_1 : decode cX8_laysPairs 1 = .ok (.invokevirtual 123, 3) := by decide +kernel
theorem dX8_laysPairs_4 : decode cX8_laysPairs 4 = .ok (.iconst 0, 1) := by decide +kernel
theorem dX8_laysPairs_5 : decode cX8_laysPairs 5 = .ok (.istore_n 1, 1) := by decide +kernel
theorem dX8_laysPairs_6 : decode cX8_laysPairs 6 = .ok (.iload_n 1, 1) := by decide +kernel
theorem dX8_laysPairs_7 : decode cX8_laysPairs 7 = .ok (.iconst 1, 1) := by decide +kernel
theorem dX8_laysPairs_8 : decode cX8_laysPairs 8 = .ok (.aload_n 0, 1) := by decide +kernel
theorem dX8_laysPairs_9 : decode cX8_laysPairs 9 = .ok (.getfield 106, 3) := by decide +kernel
theorem dX8_laysPairs_12 : decode cX8_laysPairs 12 = .ok (.ishl, 1) := by decide +kernel
theorem dX8_laysPairs_13 : decode cX8_laysPairs 13 = .ok (.if_icmp .ge 136, 3) := by decide +kernel
theorem dX8_laysPairs_16 : decode cX8_laysPairs 16 = .ok (.iconst 0, 1) := by decide +kernel
theorem dX8_laysPairs_17 : decode cX8_laysPairs 17 = .ok (.istore_n 2, 1) := by decide +kernel
theorem dX8_laysPairs_18 : decode cX8_laysPairs 18 = .ok (.iload_n 2, 1) := by decide +kernel
theorem dX8_laysPairs_19 : decode cX8_laysPairs 19 = .ok (.bipush 8, 2) := by decide +kernel
theorem dX8_laysPairs_21 : decode cX8_laysPairs 21 = .ok (.if_icmp .ge 17, 3) := by decide +kernel
theorem dX8_laysPairs_24 : decode cX8_laysPairs 24 = .ok (.iload_n 1, 1) := by decide +kernel
theorem dX8_laysPairs_25 : decode cX8_laysPairs 25 = .ok (.iload_n 2, 1) := by decide +kernel
theorem dX8_laysPairs_26 : decode cX8_laysPairs 26 = .ok (.invokestatic 204, 3) := by decide +kernel
theorem dX8_laysPairs_29 : decode cX8_laysPairs 29 = .ok (.ifCond .ne 9, 3) := by decide +kernel
theorem dX8_laysPairs_32 : decode cX8_laysPairs 32 = .ok (.iinc 2 1, 3) := by decide +kernel
theorem dX8_laysPairs_35 : decode cX8_laysPairs 35 = .ok (.goto (-17), 3) := by decide +kernel
theorem dX8_laysPairs_38 : decode cX8_laysPairs 38 = .ok (.iload_n 1, 1) := by decide +kernel
theorem dX8_laysPairs_39 : decode cX8_laysPairs 39 = .ok (.ifCond .ne 7, 3) := by decide +kernel
theorem dX8_laysPairs_42 : decode cX8_laysPairs 42 = .ok (.iconst 0, 1) := by decide +kernel
theorem dX8_laysPairs_43 : decode cX8_laysPairs 43 = .ok (.goto 15, 3) := by decide +kernel
theorem dX8_laysPairs_46 : decode cX8_laysPairs 46 = .ok (.aload_n 0, 1) := by decide +kernel
theorem dX8_laysPairs_47 : decode cX8_laysPairs 47 = .ok (.getfield 58, 3) := by decide +kernel
theorem dX8_laysPairs_50 : decode cX8_laysPairs 50 = .ok (.iload_n 1, 1) := by decide +kernel
theorem dX8_laysPairs_51 : decode cX8_laysPairs 51 = .ok (.iconst 1, 1) := by decide +kernel
theorem dX8_laysPairs_52 : decode cX8_laysPairs 52 = .ok (.iload_n 2, 1) := by decide +kernel
theorem dX8_laysPairs_53 : decode cX8_laysPairs 53 = .ok (.ishl, 1) := by decide +kernel
theorem dX8_laysPairs_54 : decode cX8_laysPairs 54 = .ok (.iconst (-1), 1) := by decide +kernel
theorem dX8_laysPairs_55 : decode cX8_laysPairs 55 = .ok (.ixor, 1) := by decide +kernel
theorem dX8_laysPairs_56 : decode cX8_laysPairs 56 = .ok (.iand, 1) := by decide +kernel
theorem dX8_laysPairs_57 : decode cX8_laysPairs 57 = .ok (.iaload, 1) := by decide +kernel
theorem dX8_laysPairs_58 : decode cX8_laysPairs 58 = .ok (.istore_n 3, 1) := by decide +kernel
theorem dX8_laysPairs_59 : decode cX8_laysPairs 59 = .ok (.iload_n 2, 1) := by decide +kernel
theorem dX8_laysPairs_60 : decode cX8_laysPairs 60 = .ok (.iconst 1, 1) := by decide +kernel
theorem dX8_laysPairs_61 : decode cX8_laysPairs 61 = .ok (.iadd, 1) := by decide +kernel
theorem dX8_laysPairs_62 : decode cX8_laysPairs 62 = .ok (.istore 4, 2) := by decide +kernel
theorem dX8_laysPairs_64 : decode cX8_laysPairs 64 = .ok (.iload 4, 2) := by decide +kernel
theorem dX8_laysPairs_66 : decode cX8_laysPairs 66 = .ok (.aload_n 0, 1) := by decide +kernel
theorem dX8_laysPairs_67 : decode cX8_laysPairs 67 = .ok (.getfield 106, 3) := by decide +kernel
theorem dX8_laysPairs_70 : decode cX8_laysPairs 70 = .ok (.if_icmp .ge 66, 3) := by decide +kernel
theorem dX8_laysPairs_73 : decode cX8_laysPairs 73 = .ok (.iload_n 1, 1) := by decide +kernel
theorem dX8_laysPairs_74 : decode cX8_laysPairs 74 = .ok (.iload 4, 2) := by decide +kernel
theorem dX8_laysPairs_76 : decode cX8_laysPairs 76 = .ok (.invokestatic 204, 3) := by decide +kernel
theorem dX8_laysPairs_79 : decode cX8_laysPairs 79 = .ok (.ifCond .eq 35, 3) := by decide +kernel
theorem dX8_laysPairs_82 : decode cX8_laysPairs 82 = .ok (.aload_n 0, 1) := by decide +kernel
theorem dX8_laysPairs_83 : decode cX8_laysPairs 83 = .ok (.iload_n 2, 1) := by decide +kernel
theorem dX8_laysPairs_84 : decode cX8_laysPairs 84 = .ok (.iload 4, 2) := by decide +kernel
theorem dX8_laysPairs_86 : decode cX8_laysPairs 86 = .ok (.invokevirtual 245, 3) := by decide +kernel
theorem dX8_laysPairs_89 : decode cX8_laysPairs 89 = .ok (.ifCond .eq 25, 3) := by decide +kernel
theorem dX8_laysPairs_92 : decode cX8_laysPairs 92 = .ok (.iconst 1, 1) := by decide +kernel
theorem dX8_laysPairs_93 : decode cX8_laysPairs 93 = .ok (.aload_n 0, 1) := by decide +kernel
theorem dX8_laysPairs_94 : decode cX8_laysPairs 94 = .ok (.getfield 58, 3) := by decide +kernel
theorem dX8_laysPairs_97 : decode cX8_laysPairs 97 = .ok (.iload_n 1, 1) := by decide +kernel
theorem dX8_laysPairs_98 : decode cX8_laysPairs 98 = .ok (.iconst 1, 1) := by decide +kernel
theorem dX8_laysPairs_99 : decode cX8_laysPairs 99 = .ok (.iload_n 2, 1) := by decide +kernel
theorem dX8_laysPairs_100 : decode cX8_laysPairs 100 = .ok (.ishl, 1) := by decide +kernel
theorem dX8_laysPairs_101 : decode cX8_laysPairs 101 = .ok (.iconst 1, 1) := by decide +kernel
theorem dX8_laysPairs_102 : decode cX8_laysPairs 102 = .ok (.iload 4, 2) := by decide +kernel
theorem dX8_laysPairs_104 : decode cX8_laysPairs 104 = .ok (.ishl, 1) := by decide +kernel
theorem dX8_laysPairs_105 : decode cX8_laysPairs 105 = .ok (.ior, 1) := by decide +kernel
theorem dX8_laysPairs_106 : decode cX8_laysPairs 106 = .ok (.iconst (-1), 1) := by decide +kernel
theorem dX8_laysPairs_107 : decode cX8_laysPairs 107 = .ok (.ixor, 1) := by decide +kernel
theorem dX8_laysPairs_108 : decode cX8_laysPairs 108 = .ok (.iand, 1) := by decide +kernel
theorem dX8_laysPairs_109 : decode cX8_laysPairs 109 = .ok (.iaload, 1) := by decide +kernel
theorem dX8_laysPairs_110 : decode cX8_laysPairs 110 = .ok (.iadd, 1) := by decide +kernel
theorem dX8_laysPairs_111 : decode cX8_laysPairs 111 = .ok (.goto 4, 3) := by decide +kernel
theorem dX8_laysPairs_114 : decode cX8_laysPairs 114 = .ok (.iconst 0, 1) := by decide +kernel
theorem dX8_laysPairs_115 : decode cX8_laysPairs 115 = .ok (.istore 5, 2) := by decide +kernel
theorem dX8_laysPairs_117 : decode cX8_laysPairs 117 = .ok (.iload 5, 2) := by decide +kernel
theorem dX8_laysPairs_119 : decode cX8_laysPairs 119 = .ok (.iload_n 3, 1) := by decide +kernel
theorem dX8_laysPairs_120 : decode cX8_laysPairs 120 = .ok (.if_icmp .le 8, 3) := by decide +kernel
theorem dX8_laysPairs_123 : decode cX8_laysPairs 123 = .ok (.iload 5, 2) := by decide +kernel
theorem dX8_laysPairs_125 : decode cX8_laysPairs 125 = .ok (.goto 4, 3) := by decide +kernel
theorem dX8_laysPairs_128 : decode cX8_laysPairs 128 = .ok (.iload_n 3, 1) := by decide +kernel
theorem dX8_laysPairs_129 : decode cX8_laysPairs 129 = .ok (.istore_n 3, 1) := by decide +kernel
theorem dX8_laysPairs_130 : decode cX8_laysPairs 130 = .ok (.iinc 4 1, 3) := by decide +kernel
theorem dX8_laysPairs_133 : decode cX8_laysPairs 133 = .ok (.goto (-69), 3) := by decide +kernel
theorem dX8_laysPairs_136 : decode cX8_laysPairs 136 = .ok (.aload_n 0, 1) := by decide +kernel
theorem dX8_laysPairs_137 : decode cX8_laysPairs 137 = .ok (.getfield 58, 3) := by decide +kernel
theorem dX8_laysPairs_140 : decode cX8_laysPairs 140 = .ok (.iload_n 1, 1) := by decide +kernel
theorem dX8_laysPairs_141 : decode cX8_laysPairs 141 = .ok (.iload_n 3, 1) := by decide +kernel
theorem dX8_laysPairs_142 : decode cX8_laysPairs 142 = .ok (.iastore, 1) := by decide +kernel
theorem dX8_laysPairs_143 : decode cX8_laysPairs 143 = .ok (.iinc 1 1, 3) := by decide +kernel
theorem dX8_laysPairs_146 : decode cX8_laysPairs 146 = .ok (.goto (-140), 3) := by decide +kernel
theorem dX8_laysPairs_149 : decode cX8_laysPairs 149 = .ok (.iconst 1, 1) := by decide +kernel
theorem dX8_laysPairs_150 : decode cX8_laysPairs 150 = .ok (.aload_n 0, 1) := by decide +kernel
theorem dX8_laysPairs_151 : decode cX8_laysPairs 151 = .ok (.getfield 106, 3) := by decide +kernel
theorem dX8_laysPairs_154 : decode cX8_laysPairs 154 = .ok (.ishl, 1) := by decide +kernel
theorem dX8_laysPairs_155 : decode cX8_laysPairs 155 = .ok (.iconst 1, 1) := by decide +kernel
theorem dX8_laysPairs_156 : decode cX8_laysPairs 156 = .ok (.isub, 1) := by decide +kernel
theorem dX8_laysPairs_157 : decode cX8_laysPairs 157 = .ok (.istore_n 1, 1) := by decide +kernel
theorem dX8_laysPairs_158 : decode cX8_laysPairs 158 = .ok (.iconst 0, 1) := by decide +kernel
theorem dX8_laysPairs_159 : decode cX8_laysPairs 159 = .ok (.istore_n 2, 1) := by decide +kernel
theorem dX8_laysPairs_160 : decode cX8_laysPairs 160 = .ok (.iload_n 2, 1) := by decide +kernel
theorem dX8_laysPairs_161 : decode cX8_laysPairs 161 = .ok (.bipush 8, 2) := by decide +kernel
theorem dX8_laysPairs_163 : decode cX8_laysPairs 163 = .ok (.if_icmp .ge 16, 3) := by decide +kernel
theorem dX8_laysPairs_166 : decode cX8_laysPairs 166 = .ok (.aload_n 0, 1) := by decide +kernel
theorem dX8_laysPairs_167 : decode cX8_laysPairs 167 = .ok (.getfield 61, 3) := by decide +kernel
theorem dX8_laysPairs_170 : decode cX8_laysPairs 170 = .ok (.iload_n 2, 1) := by decide +kernel
theorem dX8_laysPairs_171 : decode cX8_laysPairs 171 = .ok (.iconst (-1), 1) := by decide +kernel
theorem dX8_laysPairs_172 : decode cX8_laysPairs 172 = .ok (.iastore, 1) := by decide +kernel
theorem dX8_laysPairs_173 : decode cX8_laysPairs 173 = .ok (.iinc 2 1, 3) := by decide +kernel
theorem dX8_laysPairs_176 : decode cX8_laysPairs 176 = .ok (.goto (-16), 3) := by decide +kernel
theorem dX8_laysPairs_179 : decode cX8_laysPairs 179 = .ok (.iconst 0, 1) := by decide +kernel
theorem dX8_laysPairs_180 : decode cX8_laysPairs 180 = .ok (.istore_n 2, 1) := by decide +kernel
theorem dX8_laysPairs_181 : decode cX8_laysPairs 181 = .ok (.iload_n 2, 1) := by decide +kernel
theorem dX8_laysPairs_182 : decode cX8_laysPairs 182 = .ok (.aload_n 0, 1) := by decide +kernel
theorem dX8_laysPairs_183 : decode cX8_laysPairs 183 = .ok (.getfield 106, 3) := by decide +kernel
theorem dX8_laysPairs_186 : decode cX8_laysPairs 186 = .ok (.if_icmp .ge 140, 3) := by decide +kernel
theorem dX8_laysPairs_189 : decode cX8_laysPairs 189 = .ok (.iload_n 1, 1) := by decide +kernel
theorem dX8_laysPairs_190 : decode cX8_laysPairs 190 = .ok (.iload_n 2, 1) := by decide +kernel
theorem dX8_laysPairs_191 : decode cX8_laysPairs 191 = .ok (.invokestatic 204, 3) := by decide +kernel
theorem dX8_laysPairs_194 : decode cX8_laysPairs 194 = .ok (.ifCond .eq 126, 3) := by decide +kernel
theorem dX8_laysPairs_197 : decode cX8_laysPairs 197 = .ok (.iconst (-1), 1) := by decide +kernel
theorem dX8_laysPairs_198 : decode cX8_laysPairs 198 = .ok (.istore_n 3, 1) := by decide +kernel
theorem dX8_laysPairs_199 : decode cX8_laysPairs 199 = .ok (.aload_n 0, 1) := by decide +kernel
theorem dX8_laysPairs_200 : decode cX8_laysPairs 200 = .ok (.getfield 106, 3) := by decide +kernel
theorem dX8_laysPairs_203 : decode cX8_laysPairs 203 = .ok (.iconst 1, 1) := by decide +kernel
theorem dX8_laysPairs_204 : decode cX8_laysPairs 204 = .ok (.isub, 1) := by decide +kernel
theorem dX8_laysPairs_205 : decode cX8_laysPairs 205 = .ok (.istore 4, 2) := by decide +kernel
theorem dX8_laysPairs_207 : decode cX8_laysPairs 207 = .ok (.iload 4, 2) := by decide +kernel
theorem dX8_laysPairs_209 : decode cX8_laysPairs 209 = .ok (.iload_n 2, 1) := by decide +kernel
theorem dX8_laysPairs_210 : decode cX8_laysPairs 210 = .ok (.if_icmp .le 75, 3) := by decide +kernel
theorem dX8_laysPairs_213 : decode cX8_laysPairs 213 = .ok (.iload_n 1, 1) := by decide +kernel
theorem dX8_laysPairs_214 : decode cX8_laysPairs 214 = .ok (.iload 4, 2) := by decide +kernel
theorem dX8_laysPairs_216 : decode cX8_laysPairs 216 = .ok (.invokestatic 204, 3) := by decide +kernel
theorem dX8_laysPairs_219 : decode cX8_laysPairs 219 = .ok (.ifCond .eq 45, 3) := by decide +kernel
theorem dX8_laysPairs_222 : decode cX8_laysPairs 222 = .ok (.aload_n 0, 1) := by decide +kernel
theorem dX8_laysPairs_223 : decode cX8_laysPairs 223 = .ok (.iload_n 2, 1) := by decide +kernel
theorem dX8_laysPairs_224 : decode cX8_laysPairs 224 = .ok (.iload 4, 2) := by decide +kernel
theorem dX8_laysPairs_226 : decode cX8_laysPairs 226 = .ok (.invokevirtual 245, 3) := by decide +kernel
theorem dX8_laysPairs_229 : decode cX8_laysPairs 229 = .ok (.ifCond .eq 35, 3) := by decide +kernel
theorem dX8_laysPairs_232 : decode cX8_laysPairs 232 = .ok (.iconst 1, 1) := by decide +kernel
theorem dX8_laysPairs_233 : decode cX8_laysPairs 233 = .ok (.aload_n 0, 1) := by decide +kernel
theorem dX8_laysPairs_234 : decode cX8_laysPairs 234 = .ok (.getfield 58, 3) := by decide +kernel
theorem dX8_laysPairs_237 : decode cX8_laysPairs 237 = .ok (.iload_n 1, 1) := by decide +kernel
theorem dX8_laysPairs_238 : decode cX8_laysPairs 238 = .ok (.iconst 1, 1) := by decide +kernel
theorem dX8_laysPairs_239 : decode cX8_laysPairs 239 = .ok (.iload_n 2, 1) := by decide +kernel
theorem dX8_laysPairs_240 : decode cX8_laysPairs 240 = .ok (.ishl, 1) := by decide +kernel
theorem dX8_laysPairs_241 : decode cX8_laysPairs 241 = .ok (.iconst 1, 1) := by decide +kernel
theorem dX8_laysPairs_242 : decode cX8_laysPairs 242 = .ok (.iload 4, 2) := by decide +kernel
theorem dX8_laysPairs_244 : decode cX8_laysPairs 244 = .ok (.ishl, 1) := by decide +kernel
theorem dX8_laysPairs_245 : decode cX8_laysPairs 245 = .ok (.ior, 1) := by decide +kernel
theorem dX8_laysPairs_246 : decode cX8_laysPairs 246 = .ok (.iconst (-1), 1) := by decide +kernel
theorem dX8_laysPairs_247 : decode cX8_laysPairs 247 = .ok (.ixor, 1) := by decide +kernel
theorem dX8_laysPairs_248 : decode cX8_laysPairs 248 = .ok (.iand, 1) := by decide +kernel
theorem dX8_laysPairs_249 : decode cX8_laysPairs 249 = .ok (.iaload, 1) := by decide +kernel
theorem dX8_laysPairs_250 : decode cX8_laysPairs 250 = .ok (.iadd, 1) := by decide +kernel
theorem dX8_laysPairs_251 : decode cX8_laysPairs 251 = .ok (.aload_n 0, 1) := by decide +kernel
theorem dX8_laysPairs_252 : decode cX8_laysPairs 252 = .ok (.getfield 58, 3) := by decide +kernel
theorem dX8_laysPairs_255 : decode cX8_laysPairs 255 = .ok (.iload_n 1, 1) := by decide +kernel
theorem dX8_laysPairs_256 : decode cX8_laysPairs 256 = .ok (.iaload, 1) := by decide +kernel
theorem dX8_laysPairs_257 : decode cX8_laysPairs 257 = .ok (.if_icmp .ne 7, 3) := by decide +kernel
theorem dX8_laysPairs_260 : decode cX8_laysPairs 260 = .ok (.iconst 1, 1) := by decide +kernel
theorem dX8_laysPairs_261 : decode cX8_laysPairs 261 = .ok (.goto 4, 3) := by decide +kernel
theorem dX8_laysPairs_264 : decode cX8_laysPairs 264 = .ok (.iconst 0, 1) := by decide +kernel
theorem dX8_laysPairs_265 : decode cX8_laysPairs 265 = .ok (.istore 5, 2) := by decide +kernel
theorem dX8_laysPairs_267 : decode cX8_laysPairs 267 = .ok (.iload 5, 2) := by decide +kernel
theorem dX8_laysPairs_269 : decode cX8_laysPairs 269 = .ok (.ifCond .eq 8, 3) := by decide +kernel
theorem dX8_laysPairs_272 : decode cX8_laysPairs 272 = .ok (.iload 4, 2) := by decide +kernel
theorem dX8_laysPairs_274 : decode cX8_laysPairs 274 = .ok (.goto 4, 3) := by decide +kernel
theorem dX8_laysPairs_277 : decode cX8_laysPairs 277 = .ok (.iload_n 3, 1) := by decide +kernel
theorem dX8_laysPairs_278 : decode cX8_laysPairs 278 = .ok (.istore_n 3, 1) := by decide +kernel
theorem dX8_laysPairs_279 : decode cX8_laysPairs 279 = .ok (.iinc 4 (-1), 3) := by decide +kernel
theorem dX8_laysPairs_282 : decode cX8_laysPairs 282 = .ok (.goto (-75), 3) := by decide +kernel
theorem dX8_laysPairs_285 : decode cX8_laysPairs 285 = .ok (.iload_n 3, 1) := by decide +kernel
theorem dX8_laysPairs_286 : decode cX8_laysPairs 286 = .ok (.iconst (-1), 1) := by decide +kernel
theorem dX8_laysPairs_287 : decode cX8_laysPairs 287 = .ok (.if_icmp .eq 25, 3) := by decide +kernel
theorem dX8_laysPairs_290 : decode cX8_laysPairs 290 = .ok (.aload_n 0, 1) := by decide +kernel
theorem dX8_laysPairs_291 : decode cX8_laysPairs 291 = .ok (.getfield 61, 3) := by decide +kernel
theorem dX8_laysPairs_294 : decode cX8_laysPairs 294 = .ok (.iload_n 2, 1) := by decide +kernel
theorem dX8_laysPairs_295 : decode cX8_laysPairs 295 = .ok (.iload_n 3, 1) := by decide +kernel
theorem dX8_laysPairs_296 : decode cX8_laysPairs 296 = .ok (.iastore, 1) := by decide +kernel
theorem dX8_laysPairs_297 : decode cX8_laysPairs 297 = .ok (.aload_n 0, 1) := by decide +kernel
theorem dX8_laysPairs_298 : decode cX8_laysPairs 298 = .ok (.getfield 61, 3) := by decide +kernel
theorem dX8_laysPairs_301 : decode cX8_laysPairs 301 = .ok (.iload_n 3, 1) := by decide +kernel
theorem dX8_laysPairs_302 : decode cX8_laysPairs 302 = .ok (.iload_n 2, 1) := by decide +kernel
theorem dX8_laysPairs_303 : decode cX8_laysPairs 303 = .ok (.iastore, 1) := by decide +kernel
theorem dX8_laysPairs_304 : decode cX8_laysPairs 304 = .ok (.iload_n 1, 1) := by decide +kernel
theorem dX8_laysPairs_305 : decode cX8_laysPairs 305 = .ok (.iconst 1, 1) := by decide +kernel
theorem dX8_laysPairs_306 : decode cX8_laysPairs 306 = .ok (.iload_n 3, 1) := by decide +kernel
theorem dX8_laysPairs_307 : decode cX8_laysPairs 307 = .ok (.ishl, 1) := by decide +kernel
theorem dX8_laysPairs_308 : decode cX8_laysPairs 308 = .ok (.iconst (-1), 1) := by decide +kernel
theorem dX8_laysPairs_309 : decode cX8_laysPairs 309 = .ok (.ixor, 1) := by decide +kernel
theorem dX8_laysPairs_310 : decode cX8_laysPairs 310 = .ok (.iand, 1) := by decide +kernel
theorem dX8_laysPairs_311 : decode cX8_laysPairs 311 = .ok (.istore_n 1, 1) := by decide +kernel
theorem dX8_laysPairs_312 : decode cX8_laysPairs 312 = .ok (.iload_n 1, 1) := by decide +kernel
theorem dX8_laysPairs_313 : decode cX8_laysPairs 313 = .ok (.iconst 1, 1) := by decide +kernel
theorem dX8_laysPairs_314 : decode cX8_laysPairs 314 = .ok (.iload_n 2, 1) := by decide +kernel
theorem dX8_laysPairs_315 : decode cX8_laysPairs 315 = .ok (.ishl, 1) := by decide +kernel
theorem dX8_laysPairs_316 : decode cX8_laysPairs 316 = .ok (.iconst (-1), 1) := by decide +kernel
theorem dX8_laysPairs_317 : decode cX8_laysPairs 317 = .ok (.ixor, 1) := by decide +kernel
theorem dX8_laysPairs_318 : decode cX8_laysPairs 318 = .ok (.iand, 1) := by decide +kernel
theorem dX8_laysPairs_319 : decode cX8_laysPairs 319 = .ok (.istore_n 1, 1) := by decide +kernel
theorem dX8_laysPairs_320 : decode cX8_laysPairs 320 = .ok (.iinc 2 1, 3) := by decide +kernel
theorem dX8_laysPairs_323 : decode cX8_laysPairs 323 = .ok (.goto (-142), 3) := by decide +kernel
theorem dX8_laysPairs_326 : decode cX8_laysPairs 326 = .ok (.return_, 1) := by decide +kernel
theorem dX8_togetherOf_0 : decode cX8_togetherOf 0 = .ok (.aload_n 0, 1) := by decide +kernel
theorem dX8_togetherOf_1 : decode cX8_togetherOf 1 = .ok (.invokevirtual 248, 3) := by decide +kernel
theorem dX8_togetherOf_4 : decode cX8_togetherOf 4 = .ok (.iload_n 1, 1) := by decide +kernel
theorem dX8_togetherOf_5 : decode cX8_togetherOf 5 = .ok (.iconst (-1), 1) := by decide +kernel
theorem dX8_togetherOf_6 : decode cX8_togetherOf 6 = .ok (.if_icmp .ne 19, 3) := by decide +kernel
theorem dX8_togetherOf_9 : decode cX8_togetherOf 9 = .ok (.aload_n 0, 1) := by decide +kernel
theorem dX8_togetherOf_10 : decode cX8_togetherOf 10 = .ok (.getfield 58, 3) := by decide +kernel
theorem dX8_togetherOf_13 : decode cX8_togetherOf 13 = .ok (.iconst 1, 1) := by decide +kernel
theorem dX8_togetherOf_14 : decode cX8_togetherOf 14 = .ok (.aload_n 0, 1) := by decide +kernel
theorem dX8_togetherOf_15 : decode cX8_togetherOf 15 = .ok (.getfield 106, 3) := by decide +kernel
theorem dX8_togetherOf_18 : decode cX8_togetherOf 18 = .ok (.ishl, 1) := by decide +kernel
theorem dX8_togetherOf_19 : decode cX8_togetherOf 19 = .ok (.iconst 1, 1) := by decide +kernel
theorem dX8_togetherOf_20 : decode cX8_togetherOf 20 = .ok (.isub, 1) := by decide +kernel
theorem dX8_togetherOf_21 : decode cX8_togetherOf 21 = .ok (.iaload, 1) := by decide +kernel
theorem dX8_togetherOf_22 : decode cX8_togetherOf 22 = .ok (.goto 9, 3) := by decide +kernel
theorem dX8_togetherOf_25 : decode cX8_togetherOf 25 = .ok (.aload_n 0, 1) := by decide +kernel
theorem dX8_togetherOf_26 : decode cX8_togetherOf 26 = .ok (.getfield 61, 3) := by decide +kernel
theorem dX8_togetherOf_29 : decode cX8_togetherOf 29 = .ok (.iload_n 1, 1) := by decide +kernel
theorem dX8_togetherOf_30 : decode cX8_togetherOf 30 = .ok (.iaload, 1) := by decide +kernel
theorem dX8_togetherOf_31 : decode cX8_togetherOf 31 = .ok (.ireturn, 1) := by decide +kernel
theorem dX8_together_0 : decode cX8_together 0 = .ok (.iload_n 1, 1) := by decide +kernel
theorem dX8_together_1 : decode cX8_together 1 = .ok (.iconst (-1), 1) := by decide +kernel
theorem dX8_together_2 : decode cX8_together 2 = .ok (.bipush 7, 2) := by decide +kernel
theorem dX8_together_4 : decode cX8_together 4 = .ok (.invokestatic 98, 3) := by decide +kernel
theorem dX8_together_7 : decode cX8_together 7 = .ok (.ifCond .eq 11, 3) := by decide +kernel
theorem dX8_together_10 : decode cX8_together 10 = .ok (.aload_n 0, 1) := by decide +kernel
theorem dX8_together_11 : decode cX8_together 11 = .ok (.iload_n 1, 1) := by decide +kernel
theorem dX8_together_12 : decode cX8_together 12 = .ok (.invokevirtual 251, 3) := by decide +kernel
theorem dX8_together_15 : decode cX8_together 15 = .ok (.goto 5, 3) := by decide +kernel
theorem dX8_together_18 : decode cX8_together 18 = .ok (.bipush (-2), 2) := by decide +kernel
theorem dX8_together_20 : decode cX8_together 20 = .ok (.ireturn, 1) := by decide +kernel
theorem dX8_seen_0 : decode cX8_seen 0 = .ok (.iload_n 1, 1) := by decide +kernel
theorem dX8_seen_1 : decode cX8_seen 1 = .ok (.invokestatic 139, 3) := by decide +kernel
theorem dX8_seen_4 : decode cX8_seen 4 = .ok (.ifCond .eq 19, 3) := by decide +kernel
theorem dX8_seen_7 : decode cX8_seen 7 = .ok (.iload_n 2, 1) := by decide +kernel
theorem dX8_seen_8 : decode cX8_seen 8 = .ok (.invokestatic 142, 3) := by decide +kernel
theorem dX8_seen_11 : decode cX8_seen 11 = .ok (.ifCond .eq 12, 3) := by decide +kernel
theorem dX8_seen_14 : decode cX8_seen 14 = .ok (.iload_n 3, 1) := by decide +kernel
theorem dX8_seen_15 : decode cX8_seen 15 = .ok (.iconst 0, 1) := by decide +kernel
theorem dX8_seen_16 : decode cX8_seen 16 = .ok (.iconst 1, 1) := by decide +kernel
theorem dX8_seen_17 : decode cX8_seen 17 = .ok (.invokestatic 98, 3) := by decide +kernel
theorem dX8_seen_20 : decode cX8_seen 20 = .ok (.ifCond .ne 6, 3) := by decide +kernel
theorem dX8_seen_23 : decode cX8_seen 23 = .ok (.bipush (-2), 2) := by decide +kernel
theorem dX8_seen_25 : decode cX8_seen 25 = .ok (.ireturn, 1) := by decide +kernel
theorem dX8_seen_26 : decode cX8_seen 26 = .ok (.aload_n 0, 1) := by decide +kernel
theorem dX8_seen_27 : decode cX8_seen 27 = .ok (.getfield 254, 3) := by decide +kernel
theorem dX8_seen_30 : decode cX8_seen 30 = .ok (.bipush 8, 2) := by decide +kernel
theorem dX8_seen_32 : decode cX8_seen 32 = .ok (.if_icmp .ne 6, 3) := by decide +kernel
theorem dX8_seen_35 : decode cX8_seen 35 = .ok (.bipush (-4), 2) := by decide +kernel
theorem dX8_seen_37 : decode cX8_seen 37 = .ok (.ireturn, 1) := by decide +kernel
theorem dX8_seen_38 : decode cX8_seen 38 = .ok (.aload_n 0, 1) := by decide +kernel
theorem dX8_seen_39 : decode cX8_seen 39 = .ok (.getfield 64, 3) := by decide +kernel
theorem dX8_seen_42 : decode cX8_seen 42 = .ok (.aload_n 0, 1) := by decide +kernel
theorem dX8_seen_43 : decode cX8_seen 43 = .ok (.getfield 254, 3) := by decide +kernel
theorem dX8_seen_46 : decode cX8_seen 46 = .ok (.iload_n 1, 1) := by decide +kernel
theorem dX8_seen_47 : decode cX8_seen 47 = .ok (.iastore, 1) := by decide +kernel
theorem dX8_seen_48 : decode cX8_seen 48 = .ok (.aload_n 0, 1) := by decide +kernel
theorem dX8_seen_49 : decode cX8_seen 49 = .ok (.getfield 67, 3) := by decide +kernel
theorem dX8_seen_52 : decode cX8_seen 52 = .ok (.aload_n 0, 1) := by decide +kernel
theorem dX8_seen_53 : decode cX8_seen 53 = .ok (.getfield 254, 3) := by decide +kernel
theorem dX8_seen_56 : decode cX8_seen 56 = .ok (.iload_n 2, 1) := by decide +kernel
theorem dX8_seen_57 : decode cX8_seen 57 = .ok (.iastore, 1) := by decide +kernel
theorem dX8_seen_58 : decode cX8_seen 58 = .ok (.aload_n 0, 1) := by decide +kernel
theorem dX8_seen_59 : decode cX8_seen 59 = .ok (.getfield 70, 3) := by decide +kernel
theorem dX8_seen_62 : decode cX8_seen 62 = .ok (.aload_n 0, 1) := by decide +kernel
theorem dX8_seen_63 : decode cX8_seen 63 = .ok (.getfield 254, 3) := by decide +kernel
theorem dX8_seen_66 : decode cX8_seen 66 = .ok (.iload_n 3, 1) := by decide +kernel
theorem dX8_seen_67 : decode cX8_seen 67 = .ok (.iastore, 1) := by decide +kernel
theorem dX8_seen_68 : decode cX8_seen 68 = .ok (.aload_n 0, 1) := by decide +kernel
theorem dX8_seen_69 : decode cX8_seen 69 = .ok (.dup, 1) := by decide +kernel
theorem dX8_seen_70 : decode cX8_seen 70 = .ok (.getfield 254, 3) := by decide +kernel
theorem dX8_seen_73 : decode cX8_seen 73 = .ok (.iconst 1, 1) := by decide +kernel
theorem dX8_seen_74 : decode cX8_seen 74 = .ok (.iadd, 1) := by decide +kernel
theorem dX8_seen_75 : decode cX8_seen 75 = .ok (.putfield 254, 3) := by decide +kernel
theorem dX8_seen_78 : decode cX8_seen 78 = .ok (.aload_n 0, 1) := by decide +kernel
theorem dX8_seen_79 : decode cX8_seen 79 = .ok (.getfield 254, 3) := by decide +kernel
theorem dX8_seen_82 : decode cX8_seen 82 = .ok (.ireturn, 1) := by decide +kernel
theorem dX8_forget_0 : decode cX8_forget 0 = .ok (.aload_n 0, 1) := by decide +kernel
theorem dX8_forget_1 : decode cX8_forget 1 = .ok (.getfield 254, 3) := by decide +kernel
theorem dX8_forget_4 : decode cX8_forget 4 = .ok (.istore_n 1, 1) := by decide +kernel
theorem dX8_forget_5 : decode cX8_forget 5 = .ok (.aload_n 0, 1) := by decide +kernel
theorem dX8_forget_6 : decode cX8_forget 6 = .ok (.iconst 0, 1) := by decide +kernel
theorem dX8_forget_7 : decode cX8_forget 7 = .ok (.putfield 254, 3) := by decide +kernel
theorem dX8_forget_10 : decode cX8_forget 10 = .ok (.iload_n 1, 1) := by decide +kernel
theorem dX8_forget_11 : decode cX8_forget 11 = .ok (.ireturn, 1) := by decide +kernel
theorem dX8_whenOf_0 : decode cX8_whenOf 0 = .ok (.aload_n 0, 1) := by decide +kernel
theorem dX8_whenOf_1 : decode cX8_whenOf 1 = .ok (.invokevirtual 123, 3) := by decide +kernel
theorem dX8_whenOf_4 : decode cX8_whenOf 4 = .ok (.iconst 0, 1) := by decide +kernel
theorem dX8_whenOf_5 : decode cX8_whenOf 5 = .ok (.istore_n 2, 1) := by decide +kernel
theorem dX8_whenOf_6 : decode cX8_whenOf 6 = .ok (.aload_n 0, 1) := by decide +kernel
theorem dX8_whenOf_7 : decode cX8_whenOf 7 = .ok (.getfield 34, 3) := by decide +kernel
theorem dX8_whenOf_10 : decode cX8_whenOf 10 = .ok (.aload_n 0, 1) := by decide +kernel
theorem dX8_whenOf_11 : decode cX8_whenOf 11 = .ok (.getfield 145, 3) := by decide +kernel
theorem dX8_whenOf_14 : decode cX8_whenOf 14 = .ok (.iload_n 1, 1) := by decide +kernel
theorem dX8_whenOf_15 : decode cX8_whenOf 15 = .ok (.iastore, 1) := by decide +kernel
theorem dX8_whenOf_16 : decode cX8_whenOf 16 = .ok (.iconst 0, 1) := by decide +kernel
theorem dX8_whenOf_17 : decode cX8_whenOf 17 = .ok (.istore_n 3, 1) := by decide +kernel
theorem dX8_whenOf_18 : decode cX8_whenOf 18 = .ok (.iload_n 3, 1) := by decide +kernel
theorem dX8_whenOf_19 : decode cX8_whenOf 19 = .ok (.bipush 20, 2) := by decide +kernel
theorem dX8_whenOf_21 : decode cX8_whenOf 21 = .ok (.if_icmp .ge 113, 3) := by decide +kernel
theorem dX8_whenOf_24 : decode cX8_whenOf 24 = .ok (.aload_n 0, 1) := by decide +kernel
theorem dX8_whenOf_25 : decode cX8_whenOf 25 = .ok (.getfield 31, 3) := by decide +kernel
theorem dX8_whenOf_28 : decode cX8_whenOf 28 = .ok (.aload_n 0, 1) := by decide +kernel
theorem dX8_whenOf_29 : decode cX8_whenOf 29 = .ok (.getfield 145, 3) := by decide +kernel
theorem dX8_whenOf_32 : decode cX8_whenOf 32 = .ok (.iload_n 3, 1) := by decide +kernel
theorem dX8_whenOf_33 : decode cX8_whenOf 33 = .ok (.iastore, 1) := by decide +kernel
theorem dX8_whenOf_34 : decode cX8_whenOf 34 = .ok (.iconst 1, 1) := by decide +kernel
theorem dX8_whenOf_35 : decode cX8_whenOf 35 = .ok (.istore 4, 2) := by decide +kernel
theorem dX8_whenOf_37 : decode cX8_whenOf 37 = .ok (.iconst 0, 1) := by decide +kernel
theorem dX8_whenOf_38 : decode cX8_whenOf 38 = .ok (.istore 5, 2) := by decide +kernel
theorem dX8_whenOf_40 : decode cX8_whenOf 40 = .ok (.iload 5, 2) := by decide +kernel
theorem dX8_whenOf_42 : decode cX8_whenOf 42 = .ok (.aload_n 0, 1) := by decide +kernel
theorem dX8_whenOf_43 : decode cX8_whenOf 43 = .ok (.getfield 254, 3) := by decide +kernel
theorem dX8_whenOf_46 : decode cX8_whenOf 46 = .ok (.if_icmp .ge 67, 3) := by decide +kernel
theorem dX8_whenOf_49 : decode cX8_whenOf 49 = .ok (.iload 4, 2) := by decide +kernel
theorem dX8_whenOf_51 : decode cX8_whenOf 51 = .ok (.ifCond .eq 62, 3) := by decide +kernel
theorem dX8_whenOf_54 : decode cX8_whenOf 54 = .ok (.aload_n 0, 1) := by decide +kernel
theorem dX8_whenOf_55 : decode cX8_whenOf 55 = .ok (.aload_n 0, 1) := by decide +kernel
theorem dX8_whenOf_56 : decode cX8_whenOf 56 = .ok (.getfield 64, 3) := by decide +kernel
theorem dX8_whenOf_59 : decode cX8_whenOf 59 = .ok (.iload 5, 2) := by decide +kernel
theorem dX8_whenOf_61 : decode cX8_whenOf 61 = .ok (.iaload, 1) := by decide +kernel
theorem dX8_whenOf_62 : decode cX8_whenOf 62 = .ok (.aload_n 0, 1) := by decide +kernel
theorem dX8_whenOf_63 : decode cX8_whenOf 63 = .ok (.getfield 145, 3) := by decide +kernel
theorem dX8_whenOf_66 : decode cX8_whenOf 66 = .ok (.iconst 1, 1) := by decide +kernel
theorem dX8_whenOf_67 : decode cX8_whenOf 67 = .ok (.iadd, 1) := by decide +kernel
theorem dX8_whenOf_68 : decode cX8_whenOf 68 = .ok (.aload_n 0, 1) := by decide +kernel
theorem dX8_whenOf_69 : decode cX8_whenOf 69 = .ok (.getfield 148, 3) := by decide +kernel
theorem dX8_whenOf_72 : decode cX8_whenOf 72 = .ok (.invokevirtual 183, 3) := by decide +kernel
theorem dX8_whenOf_75 : decode cX8_whenOf 75 = .ok (.aload_n 0, 1) := by decide +kernel
theorem dX8_whenOf_76 : decode cX8_whenOf 76 = .ok (.iconst 0, 1) := by decide +kernel
theorem dX8_whenOf_77 : decode cX8_whenOf 77 = .ok (.invokevirtual 191, 3) := by decide +kernel
theorem dX8_whenOf_80 : decode cX8_whenOf 80 = .ok (.aload_n 0, 1) := by decide +kernel
theorem dX8_whenOf_81 : decode cX8_whenOf 81 = .ok (.getfield 67, 3) := by decide +kernel
theorem dX8_whenOf_84 : decode cX8_whenOf 84 = .ok (.iload 5, 2) := by decide +kernel
theorem dX8_whenOf_86 : decode cX8_whenOf 86 = .ok (.iaload, 1) := by decide +kernel
theorem dX8_whenOf_87 : decode cX8_whenOf 87 = .ok (.ishr, 1) := by decide +kernel
theorem dX8_whenOf_88 : decode cX8_whenOf 88 = .ok (.iconst 1, 1) := by decide +kernel
theorem dX8_whenOf_89 : decode cX8_whenOf 89 = .ok (.iand, 1) := by decide +kernel
theorem dX8_whenOf_90 : decode cX8_whenOf 90 = .ok (.aload_n 0, 1) := by decide +kernel
theorem dX8_whenOf_91 : decode cX8_whenOf 91 = .ok (.getfield 70, 3) := by decide +kernel
theorem dX8_whenOf_94 : decode cX8_whenOf 94 = .ok (.iload 5, 2) := by decide +kernel
theorem dX8_whenOf_96 : decode cX8_whenOf 96 = .ok (.iaload, 1) := by decide +kernel
theorem dX8_whenOf_97 : decode cX8_whenOf 97 = .ok (.if_icmp .ne 7, 3) := by decide +kernel
theorem dX8_whenOf_100 : decode cX8_whenOf 100 = .ok (.iconst 1, 1) := by decide +kernel
theorem dX8_whenOf_101 : decode cX8_whenOf 101 = .ok (.goto 4, 3) := by decide +kernel
theorem dX8_whenOf_104 : decode cX8_whenOf 104 = .ok (.iconst 0, 1) := by decide +kernel
theorem dX8_whenOf_105 : decode cX8_whenOf 105 = .ok (.istore 4, 2) := by decide +kernel
theorem dX8_whenOf_107 : decode cX8_whenOf 107 = .ok (.iinc 5 1, 3) := by decide +kernel
theorem dX8_whenOf_110 : decode cX8_whenOf 110 = .ok (.goto (-70), 3) := by decide +kernel
theorem dX8_whenOf_113 : decode cX8_whenOf 113 = .ok (.iload_n 2, 1) := by decide +kernel
theorem dX8_whenOf_114 : decode cX8_whenOf 114 = .ok (.iload 4, 2) := by decide +kernel
theorem dX8_whenOf_116 : decode cX8_whenOf 116 = .ok (.ifCond .eq 9, 3) := by decide +kernel
theorem dX8_whenOf_119 : decode cX8_whenOf 119 = .ok (.iconst 1, 1) := by decide +kernel
theorem dX8_whenOf_120 : decode cX8_whenOf 120 = .ok (.iload_n 3, 1) := by decide +kernel
theorem dX8_whenOf_121 : decode cX8_whenOf 121 = .ok (.ishl, 1) := by decide +kernel
theorem dX8_whenOf_122 : decode cX8_whenOf 122 = .ok (.goto 4, 3) := by decide +kernel
theorem dX8_whenOf_125 : decode cX8_whenOf 125 = .ok (.iconst 0, 1) := by decide +kernel
theorem dX8_whenOf_126 : decode cX8_whenOf 126 = .ok (.ior, 1) := by decide +kernel
theorem dX8_whenOf_127 : decode cX8_whenOf 127 = .ok (.istore_n 2, 1) := by decide +kernel
theorem dX8_whenOf_128 : decode cX8_whenOf 128 = .ok (.iinc 3 1, 3) := by decide +kernel
theorem dX8_whenOf_131 : decode cX8_whenOf 131 = .ok (.goto (-113), 3) := by decide +kernel
theorem dX8_whenOf_134 : decode cX8_whenOf 134 = .ok (.iload_n 2, 1) := by decide +kernel
theorem dX8_whenOf_135 : decode cX8_whenOf 135 = .ok (.ireturn, 1) := by decide +kernel
theorem dX8_when_0 : decode cX8_when 0 = .ok (.aload_n 0, 1) := by decide +kernel
theorem dX8_when_1 : decode cX8_when 1 = .ok (.iload_n 1, 1) := by decide +kernel
theorem dX8_when_2 : decode cX8_when 2 = .ok (.invokevirtual 126, 3) := by decide +kernel
theorem dX8_when_5 : decode cX8_when 5 = .ok (.ifCond .eq 11, 3) := by decide +kernel
theorem dX8_when_8 : decode cX8_when 8 = .ok (.aload_n 0, 1) := by decide +kernel
theorem dX8_when_9 : decode cX8_when 9 = .ok (.iload_n 1, 1) := by decide +kernel
theorem dX8_when_10 : decode cX8_when 10 = .ok (.invokevirtual 257, 3) := by decide +kernel
theorem dX8_when_13 : decode cX8_when 13 = .ok (.goto 5, 3) := by decide +kernel
theorem dX8_when_16 : decode cX8_when 16 = .ok (.bipush (-2), 2) := by decide +kernel
theorem dX8_when_18 : decode cX8_when 18 = .ok (.ireturn, 1) := by decide +kernel
theorem dX8_weeksOf_0 : decode cX8_weeksOf 0 = .ok (.aload_n 0, 1) := by decide +kernel
theorem dX8_weeksOf_1 : decode cX8_weeksOf 1 = .ok (.invokevirtual 123, 3) := by decide +kernel
theorem dX8_weeksOf_4 : decode cX8_weeksOf 4 = .ok (.iload_n 1, 1) := by decide +kernel
theorem dX8_weeksOf_5 : decode cX8_weeksOf 5 = .ok (.istore 4, 2) := by decide +kernel
theorem dX8_weeksOf_7 : decode cX8_weeksOf 7 = .ok (.aload_n 0, 1) := by decide +kernel
theorem dX8_weeksOf_8 : decode cX8_weeksOf 8 = .ok (.getfield 145, 3) := by decide +kernel
theorem dX8_weeksOf_11 : decode cX8_weeksOf 11 = .ok (.istore 5, 2) := by decide +kernel
theorem dX8_weeksOf_13 : decode cX8_weeksOf 13 = .ok (.aload_n 0, 1) := by decide +kernel
theorem dX8_weeksOf_14 : decode cX8_weeksOf 14 = .ok (.getfield 148, 3) := by decide +kernel
theorem dX8_weeksOf_17 : decode cX8_weeksOf 17 = .ok (.istore 6, 2) := by decide +kernel
theorem dX8_weeksOf_19 : decode cX8_weeksOf 19 = .ok (.iconst 0, 1) := by decide +kernel
theorem dX8_weeksOf_20 : decode cX8_weeksOf 20 = .ok (.istore 7, 2) := by decide +kernel
theorem dX8_weeksOf_22 : decode cX8_weeksOf 22 = .ok (.iload 7, 2) := by decide +kernel
theorem dX8_weeksOf_24 : decode cX8_weeksOf 24 = .ok (.iload_n 2, 1) := by decide +kernel
theorem dX8_weeksOf_25 : decode cX8_weeksOf 25 = .ok (.if_icmp .ge 105, 3) := by decide +kernel
theorem dX8_weeksOf_28 : decode cX8_weeksOf 28 = .ok (.aload_n 0, 1) := by decide +kernel
theorem dX8_weeksOf_29 : decode cX8_weeksOf 29 = .ok (.getfield 106, 3) := by decide +kernel
theorem dX8_weeksOf_32 : decode cX8_weeksOf 32 = .ok (.ifCond .le 98, 3) := by decide +kernel
theorem dX8_weeksOf_35 : decode cX8_weeksOf 35 = .ok (.aload_n 0, 1) := by decide +kernel
theorem dX8_weeksOf_36 : decode cX8_weeksOf 36 = .ok (.getfield 109, 3) := by decide +kernel
theorem dX8_weeksOf_39 : decode cX8_weeksOf 39 = .ok (.ifCond .le 91, 3) := by decide +kernel
theorem dX8_weeksOf_42 : decode cX8_weeksOf 42 = .ok (.ldc_w 260, 3) := by decide +kernel
theorem dX8_weeksOf_45 : decode cX8_weeksOf 45 = .ok (.iload 4, 2) := by decide +kernel
theorem dX8_weeksOf_47 : decode cX8_weeksOf 47 = .ok (.imul, 1) := by decide +kernel
theorem dX8_weeksOf_48 : decode cX8_weeksOf 48 = .ok (.sipush 12345, 3) := by decide +kernel
theorem dX8_weeksOf_51 : decode cX8_weeksOf 51 = .ok (.iadd, 1) := by decide +kernel
theorem dX8_weeksOf_52 : decode cX8_weeksOf 52 = .ok (.istore 4, 2) := by decide +kernel
theorem dX8_weeksOf_54 : decode cX8_weeksOf 54 = .ok (.aload_n 0, 1) := by decide +kernel
theorem dX8_weeksOf_55 : decode cX8_weeksOf 55 = .ok (.getfield 31, 3) := by decide +kernel
theorem dX8_weeksOf_58 : decode cX8_weeksOf 58 = .ok (.iload 5, 2) := by decide +kernel
theorem dX8_weeksOf_60 : decode cX8_weeksOf 60 = .ok (.iload 7, 2) := by decide +kernel
theorem dX8_weeksOf_62 : decode cX8_weeksOf 62 = .ok (.iastore, 1) := by decide +kernel
theorem dX8_weeksOf_63 : decode cX8_weeksOf 63 = .ok (.aload_n 0, 1) := by decide +kernel
theorem dX8_weeksOf_64 : decode cX8_weeksOf 64 = .ok (.getfield 34, 3) := by decide +kernel
theorem dX8_weeksOf_67 : decode cX8_weeksOf 67 = .ok (.iload 5, 2) := by decide +kernel
theorem dX8_weeksOf_69 : decode cX8_weeksOf 69 = .ok (.iload 4, 2) := by decide +kernel
theorem dX8_weeksOf_71 : decode cX8_weeksOf 71 = .ok (.bipush 16, 2) := by decide +kernel
theorem dX8_weeksOf_73 : decode cX8_weeksOf 73 = .ok (.iushr, 1) := by decide +kernel
theorem dX8_weeksOf_74 : decode cX8_weeksOf 74 = .ok (.aload_n 0, 1) := by decide +kernel
theorem dX8_weeksOf_75 : decode cX8_weeksOf 75 = .ok (.getfield 106, 3) := by decide +kernel
theorem dX8_weeksOf_78 : decode cX8_weeksOf 78 = .ok (.irem, 1) := by decide +kernel
theorem dX8_weeksOf_79 : decode cX8_weeksOf 79 = .ok (.iastore, 1) := by decide +kernel
theorem dX8_weeksOf_80 : decode cX8_weeksOf 80 = .ok (.iinc 5 1, 3) := by decide +kernel
theorem dX8_weeksOf_83 : decode cX8_weeksOf 83 = .ok (.ldc_w 260, 3) := by decide +kernel
theorem dX8_weeksOf_86 : decode cX8_weeksOf 86 = .ok (.iload 4, 2) := by decide +kernel
theorem dX8_weeksOf_88 : decode cX8_weeksOf 88 = .ok (.imul, 1) := by decide +kernel
theorem dX8_weeksOf_89 : decode cX8_weeksOf 89 = .ok (.sipush 12345, 3) := by decide +kernel
theorem dX8_weeksOf_92 : decode cX8_weeksOf 92 = .ok (.iadd, 1) := by decide +kernel
theorem dX8_weeksOf_93 : decode cX8_weeksOf 93 = .ok (.istore 4, 2) := by decide +kernel
theorem dX8_weeksOf_95 : decode cX8_weeksOf 95 = .ok (.aload_n 0, 1) := by decide +kernel
theorem dX8_weeksOf_96 : decode cX8_weeksOf 96 = .ok (.getfield 37, 3) := by decide +kernel
theorem dX8_weeksOf_99 : decode cX8_weeksOf 99 = .ok (.iload 6, 2) := by decide +kernel
theorem dX8_weeksOf_101 : decode cX8_weeksOf 101 = .ok (.iload 7, 2) := by decide +kernel
theorem dX8_weeksOf_103 : decode cX8_weeksOf 103 = .ok (.iastore, 1) := by decide +kernel
theorem dX8_weeksOf_104 : decode cX8_weeksOf 104 = .ok (.aload_n 0, 1) := by decide +kernel
theorem dX8_weeksOf_105 : decode cX8_weeksOf 105 = .ok (.getfield 40, 3) := by decide +kernel
theorem dX8_weeksOf_108 : decode cX8_weeksOf 108 = .ok (.iload 6, 2) := by decide +kernel
theorem dX8_weeksOf_110 : decode cX8_weeksOf 110 = .ok (.iload 4, 2) := by decide +kernel
theorem dX8_weeksOf_112 : decode cX8_weeksOf 112 = .ok (.bipush 16, 2) := by decide +kernel
theorem dX8_weeksOf_114 : decode cX8_weeksOf 114 = .ok (.iushr, 1) := by decide +kernel
theorem dX8_weeksOf_115 : decode cX8_weeksOf 115 = .ok (.aload_n 0, 1) := by decide +kernel
theorem dX8_weeksOf_116 : decode cX8_weeksOf 116 = .ok (.getfield 109, 3) := by decide +kernel
theorem dX8_weeksOf_119 : decode cX8_weeksOf 119 = .ok (.irem, 1) := by decide +kernel
theorem dX8_weeksOf_120 : decode cX8_weeksOf 120 = .ok (.iastore, 1) := by decide +kernel
theorem dX8_weeksOf_121 : decode cX8_weeksOf 121 = .ok (.iinc 6 1, 3) := by decide +kernel
theorem dX8_weeksOf_124 : decode cX8_weeksOf 124 = .ok (.iinc 7 1, 3) := by decide +kernel
theorem dX8_weeksOf_127 : decode cX8_weeksOf 127 = .ok (.goto (-105), 3) := by decide +kernel
theorem dX8_weeksOf_130 : decode cX8_weeksOf 130 = .ok (.aload_n 0, 1) := by decide +kernel
theorem dX8_weeksOf_131 : decode cX8_weeksOf 131 = .ok (.iload_n 2, 1) := by decide +kernel
theorem dX8_weeksOf_132 : decode cX8_weeksOf 132 = .ok (.iconst 1, 1) := by decide +kernel
theorem dX8_weeksOf_133 : decode cX8_weeksOf 133 = .ok (.isub, 1) := by decide +kernel
theorem dX8_weeksOf_134 : decode cX8_weeksOf 134 = .ok (.iload 5, 2) := by decide +kernel
theorem dX8_weeksOf_136 : decode cX8_weeksOf 136 = .ok (.iload 6, 2) := by decide +kernel
theorem dX8_weeksOf_138 : decode cX8_weeksOf 138 = .ok (.invokevirtual 183, 3) := by decide +kernel
theorem dX8_weeksOf_141 : decode cX8_weeksOf 141 = .ok (.aload_n 0, 1) := by decide +kernel
theorem dX8_weeksOf_142 : decode cX8_weeksOf 142 = .ok (.iload_n 3, 1) := by decide +kernel
theorem dX8_weeksOf_143 : decode cX8_weeksOf 143 = .ok (.iconst 1, 1) := by decide +kernel
theorem dX8_weeksOf_144 : decode cX8_weeksOf 144 = .ok (.iadd, 1) := by decide +kernel
theorem dX8_weeksOf_145 : decode cX8_weeksOf 145 = .ok (.invokevirtual 191, 3) := by decide +kernel
theorem dX8_weeksOf_148 : decode cX8_weeksOf 148 = .ok (.invokestatic 164, 3) := by decide +kernel
theorem dX8_weeksOf_151 : decode cX8_weeksOf 151 = .ok (.ireturn, 1) := by decide +kernel
theorem dX8_weeks_0 : decode cX8_weeks 0 = .ok (.iload_n 2, 1) := by decide +kernel
theorem dX8_weeks_1 : decode cX8_weeks 1 = .ok (.iconst 1, 1) := by decide +kernel
theorem dX8_weeks_2 : decode cX8_weeks 2 = .ok (.bipush 40, 2) := by decide +kernel
theorem dX8_weeks_4 : decode cX8_weeks 4 = .ok (.invokestatic 98, 3) := by decide +kernel
theorem dX8_weeks_7 : decode cX8_weeks 7 = .ok (.ifCond .eq 22, 3) := by decide +kernel
theorem dX8_weeks_10 : decode cX8_weeks 10 = .ok (.iload_n 3, 1) := by decide +kernel
theorem dX8_weeks_11 : decode cX8_weeks 11 = .ok (.iconst 0, 1) := by decide +kernel
theorem dX8_weeks_12 : decode cX8_weeks 12 = .ok (.iconst 1, 1) := by decide +kernel
theorem dX8_weeks_13 : decode cX8_weeks 13 = .ok (.invokestatic 98, 3) := by decide +kernel
theorem dX8_weeks_16 : decode cX8_weeks 16 = .ok (.ifCond .eq 13, 3) := by decide +kernel
theorem dX8_weeks_19 : decode cX8_weeks 19 = .ok (.aload_n 0, 1) := by decide +kernel
theorem dX8_weeks_20 : decode cX8_weeks 20 = .ok (.iload_n 1, 1) := by decide +kernel
theorem dX8_weeks_21 : decode cX8_weeks 21 = .ok (.iload_n 2, 1) := by decide +kernel
theorem dX8_weeks_22 : decode cX8_weeks 22 = .ok (.iload_n 3, 1) := by decide +kernel
theorem dX8_weeks_23 : decode cX8_weeks 23 = .ok (.invokevirtual 261, 3) := by decide +kernel
theorem dX8_weeks_26 : decode cX8_weeks 26 = .ok (.goto 5, 3) := by decide +kernel
theorem dX8_weeks_29 : decode cX8_weeks 29 = .ok (.bipush (-2), 2) := by decide +kernel
theorem dX8_weeks_31 : decode cX8_weeks 31 = .ok (.ireturn, 1) := by decide +kernel
theorem dX8_meets_0 : decode cX8_meets 0 = .ok (.aload_n 0, 1) := by decide +kernel
theorem dX8_meets_1 : decode cX8_meets 1 = .ok (.iload_n 1, 1) := by decide +kernel
theorem dX8_meets_2 : decode cX8_meets 2 = .ok (.putfield 264, 3) := by decide +kernel
theorem dX8_meets_5 : decode cX8_meets 5 = .ok (.bipush (-10), 2) := by decide +kernel
theorem dX8_meets_7 : decode cX8_meets 7 = .ok (.iload_n 1, 1) := by decide +kernel
theorem dX8_meets_8 : decode cX8_meets 8 = .ok (.isub, 1) := by decide +kernel
theorem dX8_meets_9 : decode cX8_meets 9 = .ok (.ireturn, 1) := by decide +kernel
theorem dX8_isSheet_0 : decode cX8_isSheet 0 = .ok (.iload_n 0, 1) := by decide +kernel
theorem dX8_isSheet_1 : decode cX8_isSheet 1 = .ok (.iconst 0, 1) := by decide +kernel
theorem dX8_isSheet_2 : decode cX8_isSheet 2 = .ok (.iconst 3, 1) := by decide +kernel
theorem dX8_isSheet_3 : decode cX8_isSheet 3 = .ok (.invokestatic 98, 3) := by decide +kernel
theorem dX8_isSheet_6 : decode cX8_isSheet 6 = .ok (.ireturn, 1) := by decide +kernel
theorem dX8_sheet_0 : decode cX8_sheet 0 = .ok (.iload_n 1, 1) := by decide +kernel
theorem dX8_sheet_1 : decode cX8_sheet 1 = .ok (.invokestatic 151, 3) := by decide +kernel
theorem dX8_sheet_4 : decode cX8_sheet 4 = .ok (.ifCond .eq 18, 3) := by decide +kernel
theorem dX8_sheet_7 : decode cX8_sheet 7 = .ok (.iload_n 2, 1) := by decide +kernel
theorem dX8_sheet_8 : decode cX8_sheet 8 = .ok (.iconst 0, 1) := by decide +kernel
theorem dX8_sheet_9 : decode cX8_sheet 9 = .ok (.iconst 2, 1) := by decide +kernel
theorem dX8_sheet_10 : decode cX8_sheet 10 = .ok (.invokestatic 98, 3) := by decide +kernel
theorem dX8_sheet_13 : decode cX8_sheet 13 = .ok (.ifCond .eq 9, 3) := by decide +kernel
theorem dX8_sheet_16 : decode cX8_sheet 16 = .ok (.iload_n 3, 1) := by decide +kernel
theorem dX8_sheet_17 : decode cX8_sheet 17 = .ok (.bipush 48, 2) := by decide +kernel
theorem dX8_sheet_19 : decode cX8_sheet 19 = .ok (.if_icmp .le 6, 3) := by decide +kernel
theorem dX8_sheet_22 : decode cX8_sheet 22 = .ok (.bipush (-2), 2) := by decide +kernel
theorem dX8_sheet_24 : decode cX8_sheet 24 = .ok (.ireturn, 1) := by decide +kernel
theorem dX8_sheet_25 : decode cX8_sheet 25 = .ok (.iload_n 3, 1) := by decide +kernel
theorem dX8_sheet_26 : decode cX8_sheet 26 = .ok (.ifCond .ge 9, 3) := by decide +kernel
theorem dX8_sheet_29 : decode cX8_sheet 29 = .ok (.aload_n 0, 1) := by decide +kernel
theorem dX8_sheet_30 : decode cX8_sheet 30 = .ok (.iconst 5, 1) := by decide +kernel
theorem dX8_sheet_31 : decode cX8_sheet 31 = .ok (.invokevirtual 154, 3) := by decide +kernel
theorem dX8_sheet_34 : decode cX8_sheet 34 = .ok (.ireturn, 1) := by decide +kernel
theorem dX8_sheet_35 : decode cX8_sheet 35 = .ok (.aload_n 0, 1) := by decide +kernel
theorem dX8_sheet_36 : decode cX8_sheet 36 = .ok (.getfield 73, 3) := by decide +kernel
theorem dX8_sheet_39 : decode cX8_sheet 39 = .ok (.iload_n 1, 1) := by decide +kernel
theorem dX8_sheet_40 : decode cX8_sheet 40 = .ok (.iconst 1, 1) := by decide +kernel
theorem dX8_sheet_41 : decode cX8_sheet 41 = .ok (.bastore, 1) := by decide +kernel
theorem dX8_sheet_42 : decode cX8_sheet 42 = .ok (.aload_n 0, 1) := by decide +kernel
theorem dX8_sheet_43 : decode cX8_sheet 43 = .ok (.getfield 77, 3) := by decide +kernel
theorem dX8_sheet_46 : decode cX8_sheet 46 = .ok (.iload_n 1, 1) := by decide +kernel
theorem dX8_sheet_47 : decode cX8_sheet 47 = .ok (.iload_n 2, 1) := by decide +kernel
theorem dX8_sheet_48 : decode cX8_sheet 48 = .ok (.iastore, 1) := by decide +kernel
theorem dX8_sheet_49 : decode cX8_sheet 49 = .ok (.aload_n 0, 1) := by decide +kernel
theorem dX8_sheet_50 : decode cX8_sheet 50 = .ok (.getfield 80, 3) := by decide +kernel
theorem dX8_sheet_53 : decode cX8_sheet 53 = .ok (.iload_n 1, 1) := by decide +kernel
theorem dX8_sheet_54 : decode cX8_sheet 54 = .ok (.iload_n 3, 1) := by decide +kernel
theorem dX8_sheet_55 : decode cX8_sheet 55 = .ok (.iastore, 1) := by decide +kernel
theorem dX8_sheet_56 : decode cX8_sheet 56 = .ok (.iconst 0, 1) := by decide +kernel
theorem dX8_sheet_57 : decode cX8_sheet 57 = .ok (.istore 4, 2) := by decide +kernel
theorem dX8_sheet_59 : decode cX8_sheet 59 = .ok (.iload 4, 2) := by decide +kernel
theorem dX8_sheet_61 : decode cX8_sheet 61 = .ok (.bipush 48, 2) := by decide +kernel
theorem dX8_sheet_63 : decode cX8_sheet 63 = .ok (.if_icmp .ge 22, 3) := by decide +kernel
theorem dX8_sheet_66 : decode cX8_sheet 66 = .ok (.aload_n 0, 1) := by decide +kernel
theorem dX8_sheet_67 : decode cX8_sheet 67 = .ok (.getfield 83, 3) := by decide +kernel
theorem dX8_sheet_70 : decode cX8_sheet 70 = .ok (.bipush 48, 2) := by decide +kernel
theorem dX8_sheet_72 : decode cX8_sheet 72 = .ok (.iload_n 1, 1) := by decide +kernel
theorem dX8_sheet_73 : decode cX8_sheet 73 = .ok (.imul, 1) := by decide +kernel
theorem dX8_sheet_74 : decode cX8_sheet 74 = .ok (.iload 4, 2) := by decide +kernel
theorem dX8_sheet_76 : decode cX8_sheet 76 = .ok (.iadd, 1) := by decide +kernel
theorem dX8_sheet_77 : decode cX8_sheet 77 = .ok (.iconst 0, 1) := by decide +kernel
theorem dX8_sheet_78 : decode cX8_sheet 78 = .ok (.iastore, 1) := by decide +kernel
theorem dX8_sheet_79 : decode cX8_sheet 79 = .ok (.iinc 4 1, 3) := by decide +kernel
theorem dX8_sheet_82 : decode cX8_sheet 82 = .ok (.goto (-23), 3) := by decide +kernel
theorem dX8_sheet_85 : decode cX8_sheet 85 = .ok (.iload_n 3, 1) := by decide +kernel
theorem dX8_sheet_86 : decode cX8_sheet 86 = .ok (.ireturn, 1) := by decide +kernel
theorem dX8_lose_0 : decode cX8_lose 0 = .ok (.iload_n 1, 1) := by decide +kernel
theorem dX8_lose_1 : decode cX8_lose 1 = .ok (.invokestatic 151, 3) := by decide +kernel
theorem dX8_lose_4 : decode cX8_lose 4 = .ok (.ifCond .ne 6, 3) := by decide +kernel
theorem dX8_lose_7 : decode cX8_lose 7 = .ok (.bipush (-2), 2) := by decide +kernel
theorem dX8_lose_9 : decode cX8_lose 9 = .ok (.ireturn, 1) := by decide +kernel
theorem dX8_lose_10 : decode cX8_lose 10 = .ok (.aload_n 0, 1) := by decide +kernel
theorem dX8_lose_11 : decode cX8_lose 11 = .ok (.getfield 73, 3) := by decide +kernel
theorem dX8_lose_14 : decode cX8_lose 14 = .ok (.iload_n 1, 1) := by decide +kernel
theorem dX8_lose_15 : decode cX8_lose 15 = .ok (.baload, 1) := by decide +kernel
theorem dX8_lose_16 : decode cX8_lose 16 = .ok (.ifCond .ne 9, 3) := by decide +kernel
theorem dX8_lose_19 : decode cX8_lose 19 = .ok (.aload_n 0, 1) := by decide +kernel
theorem dX8_lose_20 : decode cX8_lose 20 = .ok (.iconst 1, 1) := by decide +kernel
theorem dX8_lose_21 : decode cX8_lose 21 = .ok (.invokevirtual 154, 3) := by decide +kernel
theorem dX8_lose_24 : decode cX8_lose 24 = .ok (.ireturn, 1) := by decide +kernel
theorem dX8_lose_25 : decode cX8_lose 25 = .ok (.aload_n 0, 1) := by decide +kernel
theorem dX8_lose_26 : decode cX8_lose 26 = .ok (.getfield 73, 3) := by decide +kernel
theorem dX8_lose_29 : decode cX8_lose 29 = .ok (.iload_n 1, 1) := by decide +kernel
theorem dX8_lose_30 : decode cX8_lose 30 = .ok (.iconst 0, 1) := by decide +kernel
theorem dX8_lose_31 : decode cX8_lose 31 = .ok (.bastore, 1) := by decide +kernel
theorem dX8_lose_32 : decode cX8_lose 32 = .ok (.aload_n 0, 1) := by decide +kernel
theorem dX8_lose_33 : decode cX8_lose 33 = .ok (.getfield 80, 3) := by decide +kernel
theorem dX8_lose_36 : decode cX8_lose 36 = .ok (.iload_n 1, 1) := by decide +kernel
theorem dX8_lose_37 : decode cX8_lose 37 = .ok (.iaload, 1) := by decide +kernel
theorem dX8_lose_38 : decode cX8_lose 38 = .ok (.ireturn, 1) := by decide +kernel
theorem dX8_lacks_0 : decode cX8_lacks 0 = .ok (.aload_n 0, 1) := by decide +kernel
theorem dX8_lacks_1 : decode cX8_lacks 1 = .ok (.getfield 73, 3) := by decide +kernel
theorem dX8_lacks_4 : decode cX8_lacks 4 = .ok (.iload_n 1, 1) := by decide +kernel
theorem dX8_lacks_5 : decode cX8_lacks 5 = .ok (.baload, 1) := by decide +kernel
theorem dX8_lacks_6 : decode cX8_lacks 6 = .ok (.ifCond .ne 7, 3) := by decide +kernel
theorem dX8_lacks_9 : decode cX8_lacks 9 = .ok (.iconst 1, 1) := by decide +kernel
theorem dX8_lacks_10 : decode cX8_lacks 10 = .ok (.goto 38, 3) := by decide +kernel
theorem dX8_lacks_13 : decode cX8_lacks 13 = .ok (.aload_n 0, 1) := by decide +kernel
theorem dX8_lacks_14 : decode cX8_lacks 14 = .ok (.getfield 77, 3) := by decide +kernel
theorem dX8_lacks_17 : decode cX8_lacks 17 = .ok (.iload_n 1, 1) := by decide +kernel
theorem dX8_lacks_18 : decode cX8_lacks 18 = .ok (.iaload, 1) := by decide +kernel
theorem dX8_lacks_19 : decode cX8_lacks 19 = .ok (.iload_n 2, 1) := by decide +kernel
theorem dX8_lacks_20 : decode cX8_lacks 20 = .ok (.if_icmp .eq 7, 3) := by decide +kernel
theorem dX8_lacks_23 : decode cX8_lacks 23 = .ok (.iconst 3, 1) := by decide +kernel
theorem dX8_lacks_24 : decode cX8_lacks 24 = .ok (.goto 24, 3) := by decide +kernel
theorem dX8_lacks_27 : decode cX8_lacks 27 = .ok (.iload_n 3, 1) := by decide +kernel
theorem dX8_lacks_28 : decode cX8_lacks 28 = .ok (.iconst 0, 1) := by decide +kernel
theorem dX8_lacks_29 : decode cX8_lacks 29 = .ok (.aload_n 0, 1) := by decide +kernel
theorem dX8_lacks_30 : decode cX8_lacks 30 = .ok (.getfield 80, 3) := by decide +kernel
theorem dX8_lacks_33 : decode cX8_lacks 33 = .ok (.iload_n 1, 1) := by decide +kernel
theorem dX8_lacks_34 : decode cX8_lacks 34 = .ok (.iaload, 1) := by decide +kernel
theorem dX8_lacks_35 : decode cX8_lacks 35 = .ok (.iconst 1, 1) := by decide +kernel
theorem dX8_lacks_36 : decode cX8_lacks 36 = .ok (.isub, 1) := by decide +kernel
theorem dX8_lacks_37 : decode cX8_lacks 37 = .ok (.invokestatic 98, 3) := by decide +kernel
theorem dX8_lacks_40 : decode cX8_lacks 40 = .ok (.ifCond .eq 7, 3) := by decide +kernel
theorem dX8_lacks_43 : decode cX8_lacks 43 = .ok (.iconst 0, 1) := by decide +kernel
theorem dX8_lacks_44 : decode cX8_lacks 44 = .ok (.goto 4, 3) := by decide +kernel
theorem dX8_lacks_47 : decode cX8_lacks 47 = .ok (.iconst 2, 1) := by decide +kernel
theorem dX8_lacks_48 : decode cX8_lacks 48 = .ok (.ireturn, 1) := by decide +kernel
theorem dX8_keep_0 : decode cX8_keep 0 = .ok (.aload_n 0, 1) := by decide +kernel
theorem dX8_keep_1 : decode cX8_keep 1 = .ok (.getfield 83, 3) := by decide +kernel
theorem dX8_keep_4 : decode cX8_keep 4 = .ok (.bipush 48, 2) := by decide +kernel
theorem dX8_keep_6 : decode cX8_keep 6 = .ok (.iload_n 1, 1) := by decide +kernel
theorem dX8_keep_7 : decode cX8_keep 7 = .ok (.imul, 1) := by decide +kernel
theorem dX8_keep_8 : decode cX8_keep 8 = .ok (.iload_n 2, 1) := by decide +kernel
theorem dX8_keep_9 : decode cX8_keep 9 = .ok (.iadd, 1) := by decide +kernel
theorem dX8_keep_10 : decode cX8_keep 10 = .ok (.aload_n 0, 1) := by decide +kernel
theorem dX8_keep_11 : decode cX8_keep 11 = .ok (.getfield 77, 3) := by decide +kernel
theorem dX8_keep_14 : decode cX8_keep 14 = .ok (.iload_n 1, 1) := by decide +kernel
theorem dX8_keep_15 : decode cX8_keep 15 = .ok (.iaload, 1) := by decide +kernel
theorem dX8_keep_16 : decode cX8_keep 16 = .ok (.ifCond .ne 8, 3) := by decide +kernel
theorem dX8_keep_19 : decode cX8_keep 19 = .ok (.iload_n 3, 1) := by decide +kernel
theorem dX8_keep_20 : decode cX8_keep 20 = .ok (.i2b, 1) := by decide +kernel
theorem dX8_keep_21 : decode cX8_keep 21 = .ok (.goto 19, 3) := by decide +kernel
theorem dX8_keep_24 : decode cX8_keep 24 = .ok (.aload_n 0, 1) := by decide +kernel
theorem dX8_keep_25 : decode cX8_keep 25 = .ok (.getfield 77, 3) := by decide +kernel
theorem dX8_keep_28 : decode cX8_keep 28 = .ok (.iload_n 1, 1) := by decide +kernel
theorem dX8_keep_29 : decode cX8_keep 29 = .ok (.iaload, 1) := by decide +kernel
theorem dX8_keep_30 : decode cX8_keep 30 = .ok (.iconst 1, 1) := by decide +kernel
theorem dX8_keep_31 : decode cX8_keep 31 = .ok (.if_icmp .ne 8, 3) := by decide +kernel
theorem dX8_keep_34 : decode cX8_keep 34 = .ok (.iload_n 3, 1) := by decide +kernel
theorem dX8_keep_35 : decode cX8_keep 35 = .ok (.i2s, 1) := by decide +kernel
theorem dX8_keep_36 : decode cX8_keep 36 = .ok (.goto 4, 3) := by decide +kernel
theorem dX8_keep_39 : decode cX8_keep 39 = .ok (.iload_n 3, 1) := by decide +kernel
theorem dX8_keep_40 : decode cX8_keep 40 = .ok (.iastore, 1) := by decide +kernel
theorem dX8_keep_41 : decode cX8_keep 41 = .ok (.return_, 1) := by decide +kernel
theorem dX8_put_0 : decode cX8_put 0 = .ok (.iload_n 1, 1) := by decide +kernel
theorem dX8_put_1 : decode cX8_put 1 = .ok (.invokestatic 151, 3) := by decide +kernel
theorem dX8_put_4 : decode cX8_put 4 = .ok (.ifCond .eq 12, 3) := by decide +kernel
theorem dX8_put_7 : decode cX8_put 7 = .ok (.iload_n 2, 1) := by decide +kernel
theorem dX8_put_8 : decode cX8_put 8 = .ok (.iconst 0, 1) := by decide +kernel
theorem dX8_put_9 : decode cX8_put 9 = .ok (.iconst 2, 1) := by decide +kernel
theorem dX8_put_10 : decode cX8_put 10 = .ok (.invokestatic 98, 3) := by decide +kernel
theorem dX8_put_13 : decode cX8_put 13 = .ok (.ifCond .ne 6, 3) := by decide +kernel
theorem dX8_put_16 : decode cX8_put 16 = .ok (.bipush (-2), 2) := by decide +kernel
theorem dX8_put_18 : decode cX8_put 18 = .ok (.ireturn, 1) := by decide +kernel
theorem dX8_put_19 : decode cX8_put 19 = .ok (.aload_n 0, 1) := by decide +kernel
theorem dX8_put_20 : decode cX8_put 20 = .ok (.iload_n 1, 1) := by decide +kernel
theorem dX8_put_21 : decode cX8_put 21 = .ok (.iload_n 2, 1) := by decide +kernel
theorem dX8_put_22 : decode cX8_put 22 = .ok (.iload_n 3, 1) := by decide +kernel
theorem dX8_put_23 : decode cX8_put 23 = .ok (.invokevirtual 267, 3) := by decide +kernel
theorem dX8_put_26 : decode cX8_put 26 = .ok (.istore 5, 2) := by decide +kernel
theorem dX8_put_28 : decode cX8_put 28 = .ok (.iload 5, 2) := by decide +kernel
theorem dX8_put_30 : decode cX8_put 30 = .ok (.ifCond .le 10, 3) := by decide +kernel
theorem dX8_put_33 : decode cX8_put 33 = .ok (.aload_n 0, 1) := by decide +kernel
theorem dX8_put_34 : decode cX8_put 34 = .ok (.iload 5, 2) := by decide +kernel
theorem dX8_put_36 : decode cX8_put 36 = .ok (.invokevirtual 154, 3) := by decide +kernel
theorem dX8_put_39 : decode cX8_put 39 = .ok (.ireturn, 1) := by decide +kernel
theorem dX8_put_40 : decode cX8_put 40 = .ok (.aload_n 0, 1) := by decide +kernel
theorem dX8_put_41 : decode cX8_put 41 = .ok (.iload_n 1, 1) := by decide +kernel
theorem dX8_put_42 : decode cX8_put 42 = .ok (.iload_n 3, 1) := by decide +kernel
theorem dX8_put_43 : decode cX8_put 43 = .ok (.iload 4, 2) := by decide +kernel
theorem dX8_put_45 : decode cX8_put 45 = .ok (.invokevirtual 270, 3) := by decide +kernel
theorem dX8_put_48 : decode cX8_put 48 = .ok (.iconst 1, 1) := by decide +kernel
theorem dX8_put_49 : decode cX8_put 49 = .ok (.ireturn, 1) := by decide +kernel
theorem dX8_get_0 : decode cX8_get 0 = .ok (.iload_n 1, 1) := by decide +kernel
theorem dX8_get_1 : decode cX8_get 1 = .ok (.invokestatic 151, 3) := by decide +kernel
theorem dX8_get_4 : decode cX8_get 4 = .ok (.ifCond .eq 12, 3) := by decide +kernel
theorem dX8_get_7 : decode cX8_get 7 = .ok (.iload_n 2, 1) := by decide +kernel
theorem dX8_get_8 : decode cX8_get 8 = .ok (.iconst 0, 1) := by decide +kernel
theorem dX8_get_9 : decode cX8_get 9 = .ok (.iconst 2, 1) := by decide +kernel
theorem dX8_get_10 : decode cX8_get 10 = .ok (.invokestatic 98, 3) := by decide +kernel
theorem dX8_get_13 : decode cX8_get 13 = .ok (.ifCond .ne 7, 3) := by decide +kernel
theorem dX8_get_16 : decode cX8_get 16 = .ok (.ldc_w 273, 3) := by decide +kernel
theorem dX8_get_19 : decode cX8_get 19 = .ok (.ireturn, 1) := by decide +kernel
theorem dX8_get_20 : decode cX8_get 20 = .ok (.aload_n 0, 1) := by decide +kernel
theorem dX8_get_21 : decode cX8_get 21 = .ok (.iload_n 1, 1) := by decide +kernel
theorem dX8_get_22 : decode cX8_get 22 = .ok (.iload_n 2, 1) := by decide +kernel
theorem dX8_get_23 : decode cX8_get 23 = .ok (.iload_n 3, 1) := by decide +kernel
theorem dX8_get_24 : decode cX8_get 24 = .ok (.invokevirtual 267, 3) := by decide +kernel
theorem dX8_get_27 : decode cX8_get 27 = .ok (.istore 4, 2) := by decide +kernel
theorem dX8_get_29 : decode cX8_get 29 = .ok (.iload 4, 2) := by decide +kernel
theorem dX8_get_31 : decode cX8_get 31 = .ok (.ifCond .le 13, 3) := by decide +kernel
theorem dX8_get_34 : decode cX8_get 34 = .ok (.aload_n 0, 1) := by decide +kernel
theorem dX8_get_35 : decode cX8_get 35 = .ok (.iload 4, 2) := by decide +kernel
theorem dX8_get_37 : decode cX8_get 37 = .ok (.putfield 264, 3) := by decide +kernel
theorem dX8_get_40 : decode cX8_get 40 = .ok (.ldc_w 273, 3) := by decide +kernel
theorem dX8_get_43 : decode cX8_get 43 = .ok (.ireturn, 1) := by decide +kernel
theorem dX8_get_44 : decode cX8_get 44 = .ok (.aload_n 0, 1) := by decide +kernel
theorem dX8_get_45 : decode cX8_get 45 = .ok (.getfield 83, 3) := by decide +kernel
theorem dX8_get_48 : decode cX8_get 48 = .ok (.bipush 48, 2) := by decide +kernel
theorem dX8_get_50 : decode cX8_get 50 = .ok (.iload_n 1, 1) := by decide +kernel
theorem dX8_get_51 : decode cX8_get 51 = .ok (.imul, 1) := by decide +kernel
theorem dX8_get_52 : decode cX8_get 52 = .ok (.iload_n 3, 1) := by decide +kernel
theorem dX8_get_53 : decode cX8_get 53 = .ok (.iadd, 1) := by decide +kernel
theorem dX8_get_54 : decode cX8_get 54 = .ok (.iaload, 1) := by decide +kernel
theorem dX8_get_55 : decode cX8_get 55 = .ok (.ireturn, 1) := by decide +kernel
theorem dX8_copy_0 : decode cX8_copy 0 = .ok (.iload_n 1, 1) := by decide +kernel
theorem dX8_copy_1 : decode cX8_copy 1 = .ok (.invokestatic 151, 3) := by decide +kernel
theorem dX8_copy_4 : decode cX8_copy 4 = .ok (.ifCond .eq 10, 3) := by decide +kernel
theorem dX8_copy_7 : decode cX8_copy 7 = .ok (.iload_n 3, 1) := by decide +kernel
theorem dX8_copy_8 : decode cX8_copy 8 = .ok (.invokestatic 151, 3) := by decide +kernel
theorem dX8_copy_11 : decode cX8_copy 11 = .ok (.ifCond .ne 6, 3) := by decide +kernel
theorem dX8_copy_14 : decode cX8_copy 14 = .ok (.bipush (-2), 2) := by decide +kernel
theorem dX8_copy_16 : decode cX8_copy 16 = .ok (.ireturn, 1) := by decide +kernel
theorem dX8_copy_17 : decode cX8_copy 17 = .ok (.aload_n 0, 1) := by decide +kernel
theorem dX8_copy_18 : decode cX8_copy 18 = .ok (.getfield 73, 3) := by decide +kernel
theorem dX8_copy_21 : decode cX8_copy 21 = .ok (.iload_n 1, 1) := by decide +kernel
theorem dX8_copy_22 : decode cX8_copy 22 = .ok (.baload, 1) := by decide +kernel
theorem dX8_copy_23 : decode cX8_copy 23 = .ok (.ifCond .eq 12, 3) := by decide +kernel
theorem dX8_copy_26 : decode cX8_copy 26 = .ok (.aload_n 0, 1) := by decide +kernel
theorem dX8_copy_27 : decode cX8_copy 27 = .ok (.getfield 73, 3) := by decide +kernel
theorem dX8_copy_30 : decode cX8_copy 30 = .ok (.iload_n 3, 1) := by decide +kernel
theorem dX8_copy_31 : decode cX8_copy 31 = .ok (.baload, 1) := by decide +kernel
theorem dX8_copy_32 : decode cX8_copy 32 = .ok (.ifCond .ne 9, 3) := by decide +kernel
theorem dX8_copy_35 : decode cX8_copy 35 = .ok (.aload_n 0, 1) := by decide +kernel
theorem dX8_copy_36 : decode cX8_copy 36 = .ok (.iconst 1, 1) := by decide +kernel
theorem dX8_copy_37 : decode cX8_copy 37 = .ok (.invokevirtual 154, 3) := by decide +kernel
theorem dX8_copy_40 : decode cX8_copy 40 = .ok (.ireturn, 1) := by decide +kernel
theorem dX8_copy_41 : decode cX8_copy 41 = .ok (.aload_n 0, 1) := by decide +kernel
theorem dX8_copy_42 : decode cX8_copy 42 = .ok (.getfield 77, 3) := by decide +kernel
theorem dX8_copy_45 : decode cX8_copy 45 = .ok (.iload_n 1, 1) := by decide +kernel
theorem dX8_copy_46 : decode cX8_copy 46 = .ok (.iaload, 1) := by decide +kernel
theorem dX8_copy_47 : decode cX8_copy 47 = .ok (.aload_n 0, 1) := by decide +kernel
theorem dX8_copy_48 : decode cX8_copy 48 = .ok (.getfield 77, 3) := by decide +kernel
theorem dX8_copy_51 : decode cX8_copy 51 = .ok (.iload_n 3, 1) := by decide +kernel
theorem dX8_copy_52 : decode cX8_copy 52 = .ok (.iaload, 1) := by decide +kernel
theorem dX8_copy_53 : decode cX8_copy 53 = .ok (.if_icmp .eq 9, 3) := by decide +kernel
theorem dX8_copy_56 : decode cX8_copy 56 = .ok (.aload_n 0, 1) := by decide +kernel
theorem dX8_copy_57 : decode cX8_copy 57 = .ok (.iconst 4, 1) := by decide +kernel
theorem dX8_copy_58 : decode cX8_copy 58 = .ok (.invokevirtual 154, 3) := by decide +kernel
theorem dX8_copy_61 : decode cX8_copy 61 = .ok (.ireturn, 1) := by decide +kernel
theorem dX8_copy_62 : decode cX8_copy 62 = .ok (.iload_n 2, 1) := by decide +kernel
theorem dX8_copy_63 : decode cX8_copy 63 = .ok (.ifCond .lt 48, 3) := by decide +kernel
theorem dX8_copy_66 : decode cX8_copy 66 = .ok (.iload 4, 2) := by decide +kernel
theorem dX8_copy_68 : decode cX8_copy 68 = .ok (.ifCond .lt 43, 3) := by decide +kernel
theorem dX8_copy_71 : decode cX8_copy 71 = .ok (.iload 5, 2) := by decide +kernel
theorem dX8_copy_73 : decode cX8_copy 73 = .ok (.ifCond .lt 38, 3) := by decide +kernel
theorem dX8_copy_76 : decode cX8_copy 76 = .ok (.iload_n 2, 1) := by decide +kernel
theorem dX8_copy_77 : decode cX8_copy 77 = .ok (.i2l, 1) := by decide +kernel
theorem dX8_copy_78 : decode cX8_copy 78 = .ok (.iload 5, 2) := by decide +kernel
theorem dX8_copy_80 : decode cX8_copy 80 = .ok (.i2l, 1) := by decide +kernel
theorem dX8_copy_81 : decode cX8_copy 81 = .ok (.ladd, 1) := by decide +kernel
theorem dX8_copy_82 : decode cX8_copy 82 = .ok (.aload_n 0, 1) := by decide +kernel
theorem dX8_copy_83 : decode cX8_copy 83 = .ok (.getfield 80, 3) := by decide +kernel
theorem dX8_copy_86 : decode cX8_copy 86 = .ok (.iload_n 1, 1) := by decide +kernel
theorem dX8_copy_87 : decode cX8_copy 87 = .ok (.iaload, 1) := by decide +kernel
theorem dX8_copy_88 : decode cX8_copy 88 = .ok (.i2l, 1) := by decide +kernel
theorem dX8_copy_89 : decode cX8_copy 89 = .ok (.lcmp, 1) := by decide +kernel
theorem dX8_copy_90 : decode cX8_copy 90 = .ok (.ifCond .gt 21, 3) := by decide +kernel
theorem dX8_copy_93 : decode cX8_copy 93 = .ok (.iload 4, 2) := by decide +kernel
theorem dX8_copy_95 : decode cX8_copy 95 = .ok (.i2l, 1) := by decide +kernel
theorem dX8_copy_96 : decode cX8_copy 96 = .ok (.iload 5, 2) := by decide +kernel
theorem dX8_copy_98 : decode cX8_copy 98 = .ok (.i2l, 1) := by decide +kernel
theorem dX8_copy_99 : decode cX8_copy 99 = .ok (.ladd, 1) := by decide +kernel
theorem dX8_copy_100 : decode cX8_copy 100 = .ok (.aload_n 0, 1) := by decide +kernel
theorem dX8_copy_101 : decode cX8_copy 101 = .ok (.getfield 80, 3) := by decide +kernel
theorem dX8_copy_104 : decode cX8_copy 104 = .ok (.iload_n 3, 1) := by decide +kernel
theorem dX8_copy_105 : decode cX8_copy 105 = .ok (.iaload, 1) := by decide +kernel
theorem dX8_copy_106 : decode cX8_copy 106 = .ok (.i2l, 1) := by decide +kernel
theorem dX8_copy_107 : decode cX8_copy 107 = .ok (.lcmp, 1) := by decide +kernel
theorem dX8_copy_108 : decode cX8_copy 108 = .ok (.ifCond .le 9, 3) := by decide +kernel
theorem dX8_copy_111 : decode cX8_copy 111 = .ok (.aload_n 0, 1) := by decide +kernel
theorem dX8_copy_112 : decode cX8_copy 112 = .ok (.iconst 2, 1) := by decide +kernel
theorem dX8_copy_113 : decode cX8_copy 113 = .ok (.invokevirtual 154, 3) := by decide +kernel
theorem dX8_copy_116 : decode cX8_copy 116 = .ok (.ireturn, 1) := by decide +kernel
theorem dX8_copy_117 : decode cX8_copy 117 = .ok (.iconst 0, 1) := by decide +kernel
theorem dX8_copy_118 : decode cX8_copy 118 = .ok (.istore 6, 2) := by decide +kernel
theorem dX8_copy_120 : decode cX8_copy 120 = .ok (.iload 6, 2) := by decide +kernel
theorem dX8_copy_122 : decode cX8_copy 122 = .ok (.iload 5, 2) := by decide +kernel
theorem dX8_copy_124 : decode cX8_copy 124 = .ok (.if_icmp .ge 30, 3) := by decide +kernel
theorem dX8_copy_127 : decode cX8_copy 127 = .ok (.aload_n 0, 1) := by decide +kernel
theorem dX8_copy_128 : decode cX8_copy 128 = .ok (.getfield 86, 3) := by decide +kernel
theorem dX8_copy_131 : decode cX8_copy 131 = .ok (.iload 6, 2) := by decide +kernel
theorem dX8_copy_133 : decode cX8_copy 133 = .ok (.aload_n 0, 1) := by decide +kernel
theorem dX8_copy_134 : decode cX8_copy 134 = .ok (.getfield 83, 3) := by decide +kernel
theorem dX8_copy_137 : decode cX8_copy 137 = .ok (.bipush 48, 2) := by decide +kernel
theorem dX8_copy_139 : decode cX8_copy 139 = .ok (.iload_n 1, 1) := by decide +kernel
theorem dX8_copy_140 : decode cX8_copy 140 = .ok (.imul, 1) := by decide +kernel
theorem dX8_copy_141 : decode cX8_copy 141 = .ok (.iload_n 2, 1) := by decide +kernel
theorem dX8_copy_142 : decode cX8_copy 142 = .ok (.iadd, 1) := by decide +kernel
theorem dX8_copy_143 : decode cX8_copy 143 = .ok (.iload 6, 2) := by decide +kernel
theorem dX8_copy_145 : decode cX8_copy 145 = .ok (.iadd, 1) := by decide +kernel
theorem dX8_copy_146 : decode cX8_copy 146 = .ok (.iaload, 1) := by decide +kernel
theorem dX8_copy_147 : decode cX8_copy 147 = .ok (.iastore, 1) := by decide +kernel
theorem dX8_copy_148 : decode cX8_copy 148 = .ok (.iinc 6 1, 3) := by decide +kernel
theorem dX8_copy_151 : decode cX8_copy 151 = .ok (.goto (-31), 3) := by decide +kernel
theorem dX8_copy_154 : decode cX8_copy 154 = .ok (.iconst 0, 1) := by decide +kernel
theorem dX8_copy_155 : decode cX8_copy 155 = .ok (.istore 6, 2) := by decide +kernel
theorem dX8_copy_157 : decode cX8_copy 157 = .ok (.iload 6, 2) := by decide +kernel
theorem dX8_copy_159 : decode cX8_copy 159 = .ok (.iload 5, 2) := by decide +kernel
theorem dX8_copy_161 : decode cX8_copy 161 = .ok (.if_icmp .ge 31, 3) := by decide +kernel
theorem dX8_copy_164 : decode cX8_copy 164 = .ok (.aload_n 0, 1) := by decide +kernel
theorem dX8_copy_165 : decode cX8_copy 165 = .ok (.getfield 83, 3) := by decide +kernel
theorem dX8_copy_168 : decode cX8_copy 168 = .ok (.bipush 48, 2) := by decide +kernel
theorem dX8_copy_170 : decode cX8_copy 170 = .ok (.iload_n 3, 1) := by decide +kernel
theorem dX8_copy_171 : decode cX8_copy 171 = .ok (.imul, 1) := by decide +kernel
theorem dX8_copy_172 : decode cX8_copy 172 = .ok (.iload 4, 2) := by decide +kernel
theorem dX8_copy_174 : decode cX8_copy 174 = .ok (.iadd, 1) := by decide +kernel
theorem dX8_copy_175 : decode cX8_copy 175 = .ok (.iload 6, 2) := by decide +kernel
theorem dX8_copy_177 : decode cX8_copy 177 = .ok (.iadd, 1) := by decide +kernel
theorem dX8_copy_178 : decode cX8_copy 178 = .ok (.aload_n 0, 1) := by decide +kernel
theorem dX8_copy_179 : decode cX8_copy 179 = .ok (.getfield 86, 3) := by decide +kernel
theorem dX8_copy_182 : decode cX8_copy 182 = .ok (.iload 6, 2) := by decide +kernel
theorem dX8_copy_184 : decode cX8_copy 184 = .ok (.iaload, 1) := by decide +kernel
theorem dX8_copy_185 : decode cX8_copy 185 = .ok (.iastore, 1) := by decide +kernel
theorem dX8_copy_186 : decode cX8_copy 186 = .ok (.iinc 6 1, 3) := by decide +kernel
theorem dX8_copy_189 : decode cX8_copy 189 = .ok (.goto (-32), 3) := by decide +kernel
theorem dX8_copy_192 : decode cX8_copy 192 = .ok (.iconst 1, 1) := by decide +kernel
theorem dX8_copy_193 : decode cX8_copy 193 = .ok (.ireturn, 1) := by decide +kernel
theorem dX8_write_0 : decode cX8_write 0 = .ok (.iload_n 1, 1) := by decide +kernel
theorem dX8_write_1 : decode cX8_write 1 = .ok (.invokestatic 151, 3) := by decide +kernel
theorem dX8_write_4 : decode cX8_write 4 = .ok (.ifCond .ne 6, 3) := by decide +kernel
theorem dX8_write_7 : decode cX8_write 7 = .ok (.bipush (-2), 2) := by decide +kernel
theorem dX8_write_9 : decode cX8_write 9 = .ok (.ireturn, 1) := by decide +kernel
theorem dX8_write_10 : decode cX8_write 10 = .ok (.aload_n 0, 1) := by decide +kernel
theorem dX8_write_11 : decode cX8_write 11 = .ok (.getfield 73, 3) := by decide +kernel
theorem dX8_write_14 : decode cX8_write 14 = .ok (.iload_n 1, 1) := by decide +kernel
theorem dX8_write_15 : decode cX8_write 15 = .ok (.baload, 1) := by decide +kernel
theorem dX8_write_16 : decode cX8_write 16 = .ok (.ifCond .ne 9, 3) := by decide +kernel
theorem dX8_write_19 : decode cX8_write 19 = .ok (.aload_n 0, 1) := by decide +kernel
theorem dX8_write_20 : decode cX8_write 20 = .ok (.iconst 1, 1) := by decide +kernel
theorem dX8_write_21 : decode cX8_write 21 = .ok (.invokevirtual 154, 3) := by decide +kernel
theorem dX8_write_24 : decode cX8_write 24 = .ok (.ireturn, 1) := by decide +kernel
theorem dX8_write_25 : decode cX8_write 25 = .ok (.iconst 0, 1) := by decide +kernel
theorem dX8_write_26 : decode cX8_write 26 = .ok (.istore_n 2, 1) := by decide +kernel
theorem dX8_write_27 : decode cX8_write 27 = .ok (.iload_n 2, 1) := by decide +kernel
theorem dX8_write_28 : decode cX8_write 28 = .ok (.aload_n 0, 1) := by decide +kernel
theorem dX8_write_29 : decode cX8_write 29 = .ok (.getfield 80, 3) := by decide +kernel
theorem dX8_write_32 : decode cX8_write 32 = .ok (.iload_n 1, 1) := by decide +kernel
theorem dX8_write_33 : decode cX8_write 33 = .ok (.iaload, 1) := by decide +kernel
theorem dX8_write_34 : decode cX8_write 34 = .ok (.if_icmp .ge 27, 3) := by decide +kernel
theorem dX8_write_37 : decode cX8_write 37 = .ok (.iload_n 2, 1) := by decide +kernel
theorem dX8_write_38 : decode cX8_write 38 = .ok (.bipush 40, 2) := by decide +kernel
theorem dX8_write_40 : decode cX8_write 40 = .ok (.if_icmp .ge 21, 3) := by decide +kernel
theorem dX8_write_43 : decode cX8_write 43 = .ok (.aload_n 0, 1) := by decide +kernel
theorem dX8_write_44 : decode cX8_write 44 = .ok (.iload_n 1, 1) := by decide +kernel
theorem dX8_write_45 : decode cX8_write 45 = .ok (.iload_n 2, 1) := by decide +kernel
theorem dX8_write_46 : decode cX8_write 46 = .ok (.aload_n 0, 1) := by decide +kernel
theorem dX8_write_47 : decode cX8_write 47 = .ok (.iload_n 2, 1) := by decide +kernel
theorem dX8_write_48 : decode cX8_write 48 = .ok (.iconst 0, 1) := by decide +kernel
theorem dX8_write_49 : decode cX8_write 49 = .ok (.invokevirtual 194, 3) := by decide +kernel
theorem dX8_write_52 : decode cX8_write 52 = .ok (.invokevirtual 270, 3) := by decide +kernel
theorem dX8_write_55 : decode cX8_write 55 = .ok (.iinc 2 1, 3) := by decide +kernel
theorem dX8_write_58 : decode cX8_write 58 = .ok (.goto (-31), 3) := by decide +kernel
theorem dX8_write_61 : decode cX8_write 61 = .ok (.iload_n 2, 1) := by decide +kernel
theorem dX8_write_62 : decode cX8_write 62 = .ok (.ireturn, 1) := by decide +kernel
theorem dX8_sumOf_0 : decode cX8_sumOf 0 = .ok (.aload_n 0, 1) := by decide +kernel
theorem dX8_sumOf_1 : decode cX8_sumOf 1 = .ok (.invokevirtual 123, 3) := by decide +kernel
theorem dX8_sumOf_4 : decode cX8_sumOf 4 = .ok (.iconst 0, 1) := by decide +kernel
theorem dX8_sumOf_5 : decode cX8_sumOf 5 = .ok (.istore_n 2, 1) := by decide +kernel
theorem dX8_sumOf_6 : decode cX8_sumOf 6 = .ok (.iconst 0, 1) := by decide +kernel
theorem dX8_sumOf_7 : decode cX8_sumOf 7 = .ok (.istore_n 3, 1) := by decide +kernel
theorem dX8_sumOf_8 : decode cX8_sumOf 8 = .ok (.iload_n 3, 1) := by decide +kernel
theorem dX8_sumOf_9 : decode cX8_sumOf 9 = .ok (.aload_n 0, 1) := by decide +kernel
theorem dX8_sumOf_10 : decode cX8_sumOf 10 = .ok (.getfield 106, 3) := by decide +kernel
theorem dX8_sumOf_13 : decode cX8_sumOf 13 = .ok (.if_icmp .ge 18, 3) := by decide +kernel
theorem dX8_sumOf_16 : decode cX8_sumOf 16 = .ok (.iload_n 2, 1) := by decide +kernel
theorem dX8_sumOf_17 : decode cX8_sumOf 17 = .ok (.aload_n 0, 1) := by decide +kernel
theorem dX8_sumOf_18 : decode cX8_sumOf 18 = .ok (.getfield 19, 3) := by decide +kernel
theorem dX8_sumOf_21 : decode cX8_sumOf 21 = .ok (.iload_n 3, 1) := by decide +kernel
theorem dX8_sumOf_22 : decode cX8_sumOf 22 = .ok (.iaload, 1) := by decide +kernel
theorem dX8_sumOf_23 : decode cX8_sumOf 23 = .ok (.iadd, 1) := by decide +kernel
theorem dX8_sumOf_24 : decode cX8_sumOf 24 = .ok (.istore_n 2, 1) := by decide +kernel
theorem dX8_sumOf_25 : decode cX8_sumOf 25 = .ok (.iinc 3 1, 3) := by decide +kernel
theorem dX8_sumOf_28 : decode cX8_sumOf 28 = .ok (.goto (-20), 3) := by decide +kernel
theorem dX8_sumOf_31 : decode cX8_sumOf 31 = .ok (.iload_n 1, 1) := by decide +kernel
theorem dX8_sumOf_32 : decode cX8_sumOf 32 = .ok (.ifCond .ne 10, 3) := by decide +kernel
theorem dX8_sumOf_35 : decode cX8_sumOf 35 = .ok (.aload_n 0, 1) := by decide +kernel
theorem dX8_sumOf_36 : decode cX8_sumOf 36 = .ok (.getfield 106, 3) := by decide +kernel
theorem dX8_sumOf_39 : decode cX8_sumOf 39 = .ok (.goto 16, 3) := by decide +kernel
theorem dX8_sumOf_42 : decode cX8_sumOf 42 = .ok (.iload_n 1, 1) := by decide +kernel
theorem dX8_sumOf_43 : decode cX8_sumOf 43 = .ok (.iconst 1, 1) := by decide +kernel
theorem dX8_sumOf_44 : decode cX8_sumOf 44 = .ok (.if_icmp .ne 10, 3) := by decide +kernel
theorem dX8_sumOf_47 : decode cX8_sumOf 47 = .ok (.aload_n 0, 1) := by decide +kernel
theorem dX8_sumOf_48 : decode cX8_sumOf 48 = .ok (.getfield 109, 3) := by decide +kernel
theorem dX8_sumOf_51 : decode cX8_sumOf 51 = .ok (.goto 4, 3) := by decide +kernel
theorem dX8_sumOf_54 : decode cX8_sumOf 54 = .ok (.iload_n 2, 1) := by decide +kernel
theorem dX8_sumOf_55 : decode cX8_sumOf 55 = .ok (.ireturn, 1) := by decide +kernel
theorem dX8_count_0 : decode cX8_count 0 = .ok (.iload_n 1, 1) := by decide +kernel
theorem dX8_count_1 : decode cX8_count 1 = .ok (.tableswitch 86 0 8 #[51, 51, 57, 57, 66, 71, 76, 51, 81], 51) := by decide +kernel
theorem dX8_count_52 : decode cX8_count 52 = .ok (.aload_n 0, 1) := by decide +kernel
theorem dX8_count_53 : decode cX8_count 53 = .ok (.iload_n 1, 1) := by decide +kernel
theorem dX8_count_54 : decode cX8_count 54 = .ok (.invokevirtual 274, 3) := by decide +kernel
theorem dX8_count_57 : decode cX8_count 57 = .ok (.ireturn, 1) := by decide +kernel
theorem dX8_count_58 : decode cX8_count 58 = .ok (.aload_n 0, 1) := by decide +kernel
theorem dX8_count_59 : decode cX8_count 59 = .ok (.getfield 7, 3) := by decide +kernel
theorem dX8_count_62 : decode cX8_count 62 = .ok (.iload_n 1, 1) := by decide +kernel
theorem dX8_count_63 : decode cX8_count 63 = .ok (.iconst 2, 1) := by decide +kernel
theorem dX8_count_64 : decode cX8_count 64 = .ok (.isub, 1) := by decide +kernel
theorem dX8_count_65 : decode cX8_count 65 = .ok (.iaload, 1) := by decide +kernel
theorem dX8_count_66 : decode cX8_count 66 = .ok (.ireturn, 1) := by decide +kernel
theorem dX8_count_67 : decode cX8_count 67 = .ok (.aload_n 0, 1) := by decide +kernel
theorem dX8_count_68 : decode cX8_count 68 = .ok (.getfield 145, 3) := by decide +kernel
theorem dX8_count_71 : decode cX8_count 71 = .ok (.ireturn, 1) := by decide +kernel
theorem dX8_count_72 : decode cX8_count 72 = .ok (.aload_n 0, 1) := by decide +kernel
theorem dX8_count_73 : decode cX8_count 73 = .ok (.getfield 148, 3) := by decide +kernel
theorem dX8_count_76 : decode cX8_count 76 = .ok (.ireturn, 1) := by decide +kernel
theorem dX8_count_77 : decode cX8_count 77 = .ok (.aload_n 0, 1) := by decide +kernel
theorem dX8_count_78 : decode cX8_count 78 = .ok (.getfield 254, 3) := by decide +kernel
theorem dX8_count_81 : decode cX8_count 81 = .ok (.ireturn, 1) := by decide +kernel
theorem dX8_count_82 : decode cX8_count 82 = .ok (.aload_n 0, 1) := by decide +kernel
theorem dX8_count_83 : decode cX8_count 83 = .ok (.getfield 264, 3) := by decide +kernel
theorem dX8_count_86 : decode cX8_count 86 = .ok (.ireturn, 1) := by decide +kernel
theorem dX8_count_87 : decode cX8_count 87 = .ok (.bipush (-2), 2) := by decide +kernel
theorem dX8_count_89 : decode cX8_count 89 = .ok (.ireturn, 1) := by decide +kernel
theorem dX8_virtueDigest_0 : decode cX8_virtueDigest 0 = .ok (.lload_n 1, 1) := by decide +kernel
theorem dX8_virtueDigest_1 : decode cX8_virtueDigest 1 = .ok (.lstore 4, 2) := by decide +kernel
theorem dX8_virtueDigest_3 : decode cX8_virtueDigest 3 = .ok (.ldc2_w 277, 3) := by decide +kernel
theorem dX8_virtueDigest_6 : decode cX8_virtueDigest 6 = .ok (.lload 4, 2) := by decide +kernel
theorem dX8_virtueDigest_8 : decode cX8_virtueDigest 8 = .ok (.lmul, 1) := by decide +kernel
theorem dX8_virtueDigest_9 : decode cX8_virtueDigest 9 = .ok (.aload_n 0, 1) := by decide +kernel
theorem dX8_virtueDigest_10 : decode cX8_virtueDigest 10 = .ok (.getfield 16, 3) := by decide +kernel
theorem dX8_virtueDigest_13 : decode cX8_virtueDigest 13 = .ok (.iload_n 3, 1) := by decide +kernel
theorem dX8_virtueDigest_14 : decode cX8_virtueDigest 14 = .ok (.iaload, 1) := by decide +kernel
theorem dX8_virtueDigest_15 : decode cX8_virtueDigest 15 = .ok (.i2l, 1) := by decide +kernel
theorem dX8_virtueDigest_16 : decode cX8_virtueDigest 16 = .ok (.ladd, 1) := by decide +kernel
theorem dX8_virtueDigest_17 : decode cX8_virtueDigest 17 = .ok (.lstore 4, 2) := by decide +kernel
theorem dX8_virtueDigest_19 : decode cX8_virtueDigest 19 = .ok (.ldc2_w 277, 3) := by decide +kernel
theorem dX8_virtueDigest_22 : decode cX8_virtueDigest 22 = .ok (.lload 4, 2) := by decide +kernel
theorem dX8_virtueDigest_24 : decode cX8_virtueDigest 24 = .ok (.lmul, 1) := by decide +kernel
theorem dX8_virtueDigest_25 : decode cX8_virtueDigest 25 = .ok (.aload_n 0, 1) := by decide +kernel
theorem dX8_virtueDigest_26 : decode cX8_virtueDigest 26 = .ok (.getfield 19, 3) := by decide +kernel
theorem dX8_virtueDigest_29 : decode cX8_virtueDigest 29 = .ok (.iload_n 3, 1) := by decide +kernel
theorem dX8_virtueDigest_30 : decode cX8_virtueDigest 30 = .ok (.iaload, 1) := by decide +kernel
theorem dX8_virtueDigest_31 : decode cX8_virtueDigest 31 = .ok (.i2l, 1) := by decide +kernel
theorem dX8_virtueDigest_32 : decode cX8_virtueDigest 32 = .ok (.ladd, 1) := by decide +kernel
theorem dX8_virtueDigest_33 : decode cX8_virtueDigest 33 = .ok (.lstore 4, 2) := by decide +kernel
theorem dX8_virtueDigest_35 : decode cX8_virtueDigest 35 = .ok (.ldc2_w 277, 3) := by decide +kernel
theorem dX8_virtueDigest_38 : decode cX8_virtueDigest 38 = .ok (.lload 4, 2) := by decide +kernel
theorem dX8_virtueDigest_40 : decode cX8_virtueDigest 40 = .ok (.lmul, 1) := by decide +kernel
theorem dX8_virtueDigest_41 : decode cX8_virtueDigest 41 = .ok (.aload_n 0, 1) := by decide +kernel
theorem dX8_virtueDigest_42 : decode cX8_virtueDigest 42 = .ok (.iload_n 3, 1) := by decide +kernel
theorem dX8_virtueDigest_43 : decode cX8_virtueDigest 43 = .ok (.iconst 0, 1) := by decide +kernel
theorem dX8_virtueDigest_44 : decode cX8_virtueDigest 44 = .ok (.invokevirtual 197, 3) := by decide +kernel
theorem dX8_virtueDigest_47 : decode cX8_virtueDigest 47 = .ok (.i2l, 1) := by decide +kernel
theorem dX8_virtueDigest_48 : decode cX8_virtueDigest 48 = .ok (.ladd, 1) := by decide +kernel
theorem dX8_virtueDigest_49 : decode cX8_virtueDigest 49 = .ok (.lstore 4, 2) := by decide +kernel
theorem dX8_virtueDigest_51 : decode cX8_virtueDigest 51 = .ok (.ldc2_w 277, 3) := by decide +kernel
theorem dX8_virtueDigest_54 : decode cX8_virtueDigest 54 = .ok (.lload 4, 2) := by decide +kernel
theorem dX8_virtueDigest_56 : decode cX8_virtueDigest 56 = .ok (.lmul, 1) := by decide +kernel
theorem dX8_virtueDigest_57 : decode cX8_virtueDigest 57 = .ok (.aload_n 0, 1) := by decide +kernel
theorem dX8_virtueDigest_58 : decode cX8_virtueDigest 58 = .ok (.iload_n 3, 1) := by decide +kernel
theorem dX8_virtueDigest_59 : decode cX8_virtueDigest 59 = .ok (.iconst 1, 1) := by decide +kernel
theorem dX8_virtueDigest_60 : decode cX8_virtueDigest 60 = .ok (.invokevirtual 197, 3) := by decide +kernel
theorem dX8_virtueDigest_63 : decode cX8_virtueDigest 63 = .ok (.i2l, 1) := by decide +kernel
theorem dX8_virtueDigest_64 : decode cX8_virtueDigest 64 = .ok (.ladd, 1) := by decide +kernel
theorem dX8_virtueDigest_65 : decode cX8_virtueDigest 65 = .ok (.lstore 4, 2) := by decide +kernel
theorem dX8_virtueDigest_67 : decode cX8_virtueDigest 67 = .ok (.ldc2_w 277, 3) := by decide +kernel
theorem dX8_virtueDigest_70 : decode cX8_virtueDigest 70 = .ok (.lload 4, 2) := by decide +kernel
theorem dX8_virtueDigest_72 : decode cX8_virtueDigest 72 = .ok (.lmul, 1) := by decide +kernel
theorem dX8_virtueDigest_73 : decode cX8_virtueDigest 73 = .ok (.aload_n 0, 1) := by decide +kernel
theorem dX8_virtueDigest_74 : decode cX8_virtueDigest 74 = .ok (.iconst 1, 1) := by decide +kernel
theorem dX8_virtueDigest_75 : decode cX8_virtueDigest 75 = .ok (.iload_n 3, 1) := by decide +kernel
theorem dX8_virtueDigest_76 : decode cX8_virtueDigest 76 = .ok (.invokevirtual 213, 3) := by decide +kernel
theorem dX8_virtueDigest_79 : decode cX8_virtueDigest 79 = .ok (.i2l, 1) := by decide +kernel
theorem dX8_virtueDigest_80 : decode cX8_virtueDigest 80 = .ok (.ladd, 1) := by decide +kernel
theorem dX8_virtueDigest_81 : decode cX8_virtueDigest 81 = .ok (.lstore 4, 2) := by decide +kernel
theorem dX8_virtueDigest_83 : decode cX8_virtueDigest 83 = .ok (.ldc2_w 277, 3) := by decide +kernel
theorem dX8_virtueDigest_86 : decode cX8_virtueDigest 86 = .ok (.lload 4, 2) := by decide +kernel
theorem dX8_virtueDigest_88 : decode cX8_virtueDigest 88 = .ok (.lmul, 1) := by decide +kernel
theorem dX8_virtueDigest_89 : decode cX8_virtueDigest 89 = .ok (.aload_n 0, 1) := by decide +kernel
theorem dX8_virtueDigest_90 : decode cX8_virtueDigest 90 = .ok (.iload_n 3, 1) := by decide +kernel
theorem dX8_virtueDigest_91 : decode cX8_virtueDigest 91 = .ok (.invokevirtual 219, 3) := by decide +kernel
theorem dX8_virtueDigest_94 : decode cX8_virtueDigest 94 = .ok (.i2l, 1) := by decide +kernel
theorem dX8_virtueDigest_95 : decode cX8_virtueDigest 95 = .ok (.ladd, 1) := by decide +kernel
theorem dX8_virtueDigest_96 : decode cX8_virtueDigest 96 = .ok (.lstore 4, 2) := by decide +kernel
theorem dX8_virtueDigest_98 : decode cX8_virtueDigest 98 = .ok (.ldc2_w 277, 3) := by decide +kernel
theorem dX8_virtueDigest_101 : decode cX8_virtueDigest 101 = .ok (.lload 4, 2) := by decide +kernel
theorem dX8_virtueDigest_103 : decode cX8_virtueDigest 103 = .ok (.lmul, 1) := by decide +kernel
theorem dX8_virtueDigest_104 : decode cX8_virtueDigest 104 = .ok (.aload_n 0, 1) := by decide +kernel
theorem dX8_virtueDigest_105 : decode cX8_virtueDigest 105 = .ok (.iload_n 3, 1) := by decide +kernel
theorem dX8_virtueDigest_106 : decode cX8_virtueDigest 106 = .ok (.invokevirtual 225, 3) := by decide +kernel
theorem dX8_virtueDigest_109 : decode cX8_virtueDigest 109 = .ok (.i2l, 1) := by decide +kernel
theorem dX8_virtueDigest_110 : decode cX8_virtueDigest 110 = .ok (.ladd, 1) := by decide +kernel
theorem dX8_virtueDigest_111 : decode cX8_virtueDigest 111 = .ok (.lstore 4, 2) := by decide +kernel
theorem dX8_virtueDigest_113 : decode cX8_virtueDigest 113 = .ok (.ldc2_w 277, 3) := by decide +kernel
theorem dX8_virtueDigest_116 : decode cX8_virtueDigest 116 = .ok (.lload 4, 2) := by decide +kernel
theorem dX8_virtueDigest_118 : decode cX8_virtueDigest 118 = .ok (.lmul, 1) := by decide +kernel
theorem dX8_virtueDigest_119 : decode cX8_virtueDigest 119 = .ok (.aload_n 0, 1) := by decide +kernel
theorem dX8_virtueDigest_120 : decode cX8_virtueDigest 120 = .ok (.iload_n 3, 1) := by decide +kernel
theorem dX8_virtueDigest_121 : decode cX8_virtueDigest 121 = .ok (.iconst 0, 1) := by decide +kernel
theorem dX8_virtueDigest_122 : decode cX8_virtueDigest 122 = .ok (.invokevirtual 279, 3) := by decide +kernel
theorem dX8_virtueDigest_125 : decode cX8_virtueDigest 125 = .ok (.ladd, 1) := by decide +kernel
theorem dX8_virtueDigest_126 : decode cX8_virtueDigest 126 = .ok (.lstore 4, 2) := by decide +kernel
theorem dX8_virtueDigest_128 : decode cX8_virtueDigest 128 = .ok (.ldc2_w 277, 3) := by decide +kernel
theorem dX8_virtueDigest_131 : decode cX8_virtueDigest 131 = .ok (.lload 4, 2) := by decide +kernel
theorem dX8_virtueDigest_133 : decode cX8_virtueDigest 133 = .ok (.lmul, 1) := by decide +kernel
theorem dX8_virtueDigest_134 : decode cX8_virtueDigest 134 = .ok (.aload_n 0, 1) := by decide +kernel
theorem dX8_virtueDigest_135 : decode cX8_virtueDigest 135 = .ok (.iload_n 3, 1) := by decide +kernel
theorem dX8_virtueDigest_136 : decode cX8_virtueDigest 136 = .ok (.iconst 1, 1) := by decide +kernel
theorem dX8_virtueDigest_137 : decode cX8_virtueDigest 137 = .ok (.invokevirtual 279, 3) := by decide +kernel
theorem dX8_virtueDigest_140 : decode cX8_virtueDigest 140 = .ok (.ladd, 1) := by decide +kernel
theorem dX8_virtueDigest_141 : decode cX8_virtueDigest 141 = .ok (.lstore 4, 2) := by decide +kernel
theorem dX8_virtueDigest_143 : decode cX8_virtueDigest 143 = .ok (.ldc2_w 277, 3) := by decide +kernel
theorem dX8_virtueDigest_146 : decode cX8_virtueDigest 146 = .ok (.lload 4, 2) := by decide +kernel
theorem dX8_virtueDigest_148 : decode cX8_virtueDigest 148 = .ok (.lmul, 1) := by decide +kernel
theorem dX8_virtueDigest_149 : decode cX8_virtueDigest 149 = .ok (.aload_n 0, 1) := by decide +kernel
theorem dX8_virtueDigest_150 : decode cX8_virtueDigest 150 = .ok (.iload_n 3, 1) := by decide +kernel
theorem dX8_virtueDigest_151 : decode cX8_virtueDigest 151 = .ok (.invokevirtual 251, 3) := by decide +kernel
theorem dX8_virtueDigest_154 : decode cX8_virtueDigest 154 = .ok (.i2l, 1) := by decide +kernel
theorem dX8_virtueDigest_155 : decode cX8_virtueDigest 155 = .ok (.ladd, 1) := by decide +kernel
theorem dX8_virtueDigest_156 : decode cX8_virtueDigest 156 = .ok (.lstore 4, 2) := by decide +kernel
theorem dX8_virtueDigest_158 : decode cX8_virtueDigest 158 = .ok (.ldc2_w 277, 3) := by decide +kernel
theorem dX8_virtueDigest_161 : decode cX8_virtueDigest 161 = .ok (.lload 4, 2) := by decide +kernel
theorem dX8_virtueDigest_163 : decode cX8_virtueDigest 163 = .ok (.lmul, 1) := by decide +kernel
theorem dX8_virtueDigest_164 : decode cX8_virtueDigest 164 = .ok (.aload_n 0, 1) := by decide +kernel
theorem dX8_virtueDigest_165 : decode cX8_virtueDigest 165 = .ok (.iload_n 3, 1) := by decide +kernel
theorem dX8_virtueDigest_166 : decode cX8_virtueDigest 166 = .ok (.invokevirtual 257, 3) := by decide +kernel
theorem dX8_virtueDigest_169 : decode cX8_virtueDigest 169 = .ok (.i2l, 1) := by decide +kernel
theorem dX8_virtueDigest_170 : decode cX8_virtueDigest 170 = .ok (.ladd, 1) := by decide +kernel
theorem dX8_virtueDigest_171 : decode cX8_virtueDigest 171 = .ok (.lreturn, 1) := by decide +kernel
theorem dX8_weekDigest_0 : decode cX8_weekDigest 0 = .ok (.lload_n 1, 1) := by decide +kernel
theorem dX8_weekDigest_1 : decode cX8_weekDigest 1 = .ok (.lstore 4, 2) := by decide +kernel
theorem dX8_weekDigest_3 : decode cX8_weekDigest 3 = .ok (.iconst 0, 1) := by decide +kernel
theorem dX8_weekDigest_4 : decode cX8_weekDigest 4 = .ok (.istore 6, 2) := by decide +kernel
theorem dX8_weekDigest_6 : decode cX8_weekDigest 6 = .ok (.iload 6, 2) := by decide +kernel
theorem dX8_weekDigest_8 : decode cX8_weekDigest 8 = .ok (.iconst 3, 1) := by decide +kernel
theorem dX8_weekDigest_9 : decode cX8_weekDigest 9 = .ok (.if_icmp .ge 26, 3) := by decide +kernel
theorem dX8_weekDigest_12 : decode cX8_weekDigest 12 = .ok (.ldc2_w 277, 3) := by decide +kernel
theorem dX8_weekDigest_15 : decode cX8_weekDigest 15 = .ok (.lload 4, 2) := by decide +kernel
theorem dX8_weekDigest_17 : decode cX8_weekDigest 17 = .ok (.lmul, 1) := by decide +kernel
theorem dX8_weekDigest_18 : decode cX8_weekDigest 18 = .ok (.aload_n 0, 1) := by decide +kernel
theorem dX8_weekDigest_19 : decode cX8_weekDigest 19 = .ok (.iload_n 3, 1) := by decide +kernel
theorem dX8_weekDigest_20 : decode cX8_weekDigest 20 = .ok (.iload 6, 2) := by decide +kernel
theorem dX8_weekDigest_22 : decode cX8_weekDigest 22 = .ok (.invokevirtual 194, 3) := by decide +kernel
theorem dX8_weekDigest_25 : decode cX8_weekDigest 25 = .ok (.i2l, 1) := by decide +kernel
theorem dX8_weekDigest_26 : decode cX8_weekDigest 26 = .ok (.ladd, 1) := by decide +kernel
theorem dX8_weekDigest_27 : decode cX8_weekDigest 27 = .ok (.lstore 4, 2) := by decide +kernel
theorem dX8_weekDigest_29 : decode cX8_weekDigest 29 = .ok (.iinc 6 1, 3) := by decide +kernel
theorem dX8_weekDigest_32 : decode cX8_weekDigest 32 = .ok (.goto (-26), 3) := by decide +kernel
theorem dX8_weekDigest_35 : decode cX8_weekDigest 35 = .ok (.lload 4, 2) := by decide +kernel
theorem dX8_weekDigest_37 : decode cX8_weekDigest 37 = .ok (.lreturn, 1) := by decide +kernel
theorem dX8_digest_0 : decode cX8_digest 0 = .ok (.ldc2_w 283, 3) := by decide +kernel
theorem dX8_digest_3 : decode cX8_digest 3 = .ok (.lstore_n 1, 1) := by decide +kernel
theorem dX8_digest_4 : decode cX8_digest 4 = .ok (.iconst 0, 1) := by decide +kernel
theorem dX8_digest_5 : decode cX8_digest 5 = .ok (.istore_n 3, 1) := by decide +kernel
theorem dX8_digest_6 : decode cX8_digest 6 = .ok (.iload_n 3, 1) := by decide +kernel
theorem dX8_digest_7 : decode cX8_digest 7 = .ok (.bipush 8, 2) := by decide +kernel
theorem dX8_digest_9 : decode cX8_digest 9 = .ok (.if_icmp .ge 22, 3) := by decide +kernel
theorem dX8_digest_12 : decode cX8_digest 12 = .ok (.ldc2_w 277, 3) := by decide +kernel
theorem dX8_digest_15 : decode cX8_digest 15 = .ok (.lload_n 1, 1) := by decide +kernel
theorem dX8_digest_16 : decode cX8_digest 16 = .ok (.lmul, 1) := by decide +kernel
theorem dX8_digest_17 : decode cX8_digest 17 = .ok (.aload_n 0, 1) := by decide +kernel
theorem dX8_digest_18 : decode cX8_digest 18 = .ok (.iload_n 3, 1) := by decide +kernel
theorem dX8_digest_19 : decode cX8_digest 19 = .ok (.invokevirtual 285, 3) := by decide +kernel
theorem dX8_digest_22 : decode cX8_digest 22 = .ok (.i2l, 1) := by decide +kernel
theorem dX8_digest_23 : decode cX8_digest 23 = .ok (.ladd, 1) := by decide +kernel
theorem dX8_digest_24 : decode cX8_digest 24 = .ok (.lstore_n 1, 1) := by decide +kernel
theorem dX8_digest_25 : decode cX8_digest 25 = .ok (.iinc 3 1, 3) := by decide +kernel
theorem dX8_digest_28 : decode cX8_digest 28 = .ok (.goto (-22), 3) := by decide +kernel
theorem dX8_digest_31 : decode cX8_digest 31 = .ok (.ldc2_w 277, 3) := by decide +kernel
theorem dX8_digest_34 : decode cX8_digest 34 = .ok (.lload_n 1, 1) := by decide +kernel
theorem dX8_digest_35 : decode cX8_digest 35 = .ok (.lmul, 1) := by decide +kernel
theorem dX8_digest_36 : decode cX8_digest 36 = .ok (.aload_n 0, 1) := by decide +kernel
theorem dX8_digest_37 : decode cX8_digest 37 = .ok (.iconst 0, 1) := by decide +kernel
theorem dX8_digest_38 : decode cX8_digest 38 = .ok (.invokevirtual 120, 3) := by decide +kernel
theorem dX8_digest_41 : decode cX8_digest 41 = .ok (.i2l, 1) := by decide +kernel
theorem dX8_digest_42 : decode cX8_digest 42 = .ok (.ladd, 1) := by decide +kernel
theorem dX8_digest_43 : decode cX8_digest 43 = .ok (.lstore_n 1, 1) := by decide +kernel
theorem dX8_digest_44 : decode cX8_digest 44 = .ok (.ldc2_w 277, 3) := by decide +kernel
theorem dX8_digest_47 : decode cX8_digest 47 = .ok (.lload_n 1, 1) := by decide +kernel
theorem dX8_digest_48 : decode cX8_digest 48 = .ok (.lmul, 1) := by decide +kernel
theorem dX8_digest_49 : decode cX8_digest 49 = .ok (.aload_n 0, 1) := by decide +kernel
theorem dX8_digest_50 : decode cX8_digest 50 = .ok (.iconst 1, 1) := by decide +kernel
theorem dX8_digest_51 : decode cX8_digest 51 = .ok (.invokevirtual 120, 3) := by decide +kernel
theorem dX8_digest_54 : decode cX8_digest 54 = .ok (.i2l, 1) := by decide +kernel
theorem dX8_digest_55 : decode cX8_digest 55 = .ok (.ladd, 1) := by decide +kernel
theorem dX8_digest_56 : decode cX8_digest 56 = .ok (.lstore_n 1, 1) := by decide +kernel
theorem dX8_digest_57 : decode cX8_digest 57 = .ok (.iconst 0, 1) := by decide +kernel
theorem dX8_digest_58 : decode cX8_digest 58 = .ok (.istore_n 3, 1) := by decide +kernel
theorem dX8_digest_59 : decode cX8_digest 59 = .ok (.iload_n 3, 1) := by decide +kernel
theorem dX8_digest_60 : decode cX8_digest 60 = .ok (.aload_n 0, 1) := by decide +kernel
theorem dX8_digest_61 : decode cX8_digest 61 = .ok (.getfield 106, 3) := by decide +kernel
theorem dX8_digest_64 : decode cX8_digest 64 = .ok (.if_icmp .ge 16, 3) := by decide +kernel
theorem dX8_digest_67 : decode cX8_digest 67 = .ok (.aload_n 0, 1) := by decide +kernel
theorem dX8_digest_68 : decode cX8_digest 68 = .ok (.lload_n 1, 1) := by decide +kernel
theorem dX8_digest_69 : decode cX8_digest 69 = .ok (.iload_n 3, 1) := by decide +kernel
theorem dX8_digest_70 : decode cX8_digest 70 = .ok (.invokevirtual 288, 3) := by decide +kernel
theorem dX8_digest_73 : decode cX8_digest 73 = .ok (.lstore_n 1, 1) := by decide +kernel
theorem dX8_digest_74 : decode cX8_digest 74 = .ok (.iinc 3 1, 3) := by decide +kernel
theorem dX8_digest_77 : decode cX8_digest 77 = .ok (.goto (-18), 3) := by decide +kernel
theorem dX8_digest_80 : decode cX8_digest 80 = .ok (.iconst 0, 1) := by decide +kernel
theorem dX8_digest_81 : decode cX8_digest 81 = .ok (.istore_n 3, 1) := by decide +kernel
theorem dX8_digest_82 : decode cX8_digest 82 = .ok (.iload_n 3, 1) := by decide +kernel
theorem dX8_digest_83 : decode cX8_digest 83 = .ok (.aload_n 0, 1) := by decide +kernel
theorem dX8_digest_84 : decode cX8_digest 84 = .ok (.getfield 109, 3) := by decide +kernel
theorem dX8_digest_87 : decode cX8_digest 87 = .ok (.if_icmp .ge 66, 3) := by decide +kernel
theorem dX8_digest_90 : decode cX8_digest 90 = .ok (.iconst 0, 1) := by decide +kernel
theorem dX8_digest_91 : decode cX8_digest 91 = .ok (.istore 4, 2) := by decide +kernel
theorem dX8_digest_93 : decode cX8_digest 93 = .ok (.iload 4, 2) := by decide +kernel
theorem dX8_digest_95 : decode cX8_digest 95 = .ok (.iconst 3, 1) := by decide +kernel
theorem dX8_digest_96 : decode cX8_digest 96 = .ok (.if_icmp .ge 24, 3) := by decide +kernel
theorem dX8_digest_99 : decode cX8_digest 99 = .ok (.ldc2_w 277, 3) := by decide +kernel
theorem dX8_digest_102 : decode cX8_digest 102 = .ok (.lload_n 1, 1) := by decide +kernel
theorem dX8_digest_103 : decode cX8_digest 103 = .ok (.lmul, 1) := by decide +kernel
theorem dX8_digest_104 : decode cX8_digest 104 = .ok (.aload_n 0, 1) := by decide +kernel
theorem dX8_digest_105 : decode cX8_digest 105 = .ok (.iload_n 3, 1) := by decide +kernel
theorem dX8_digest_106 : decode cX8_digest 106 = .ok (.iload 4, 2) := by decide +kernel
theorem dX8_digest_108 : decode cX8_digest 108 = .ok (.invokevirtual 132, 3) := by decide +kernel
theorem dX8_digest_111 : decode cX8_digest 111 = .ok (.i2l, 1) := by decide +kernel
theorem dX8_digest_112 : decode cX8_digest 112 = .ok (.ladd, 1) := by decide +kernel
theorem dX8_digest_113 : decode cX8_digest 113 = .ok (.lstore_n 1, 1) := by decide +kernel
theorem dX8_digest_114 : decode cX8_digest 114 = .ok (.iinc 4 1, 3) := by decide +kernel
theorem dX8_digest_117 : decode cX8_digest 117 = .ok (.goto (-24), 3) := by decide +kernel
theorem dX8_digest_120 : decode cX8_digest 120 = .ok (.ldc2_w 277, 3) := by decide +kernel
theorem dX8_digest_123 : decode cX8_digest 123 = .ok (.lload_n 1, 1) := by decide +kernel
theorem dX8_digest_124 : decode cX8_digest 124 = .ok (.lmul, 1) := by decide +kernel
theorem dX8_digest_125 : decode cX8_digest 125 = .ok (.aload_n 0, 1) := by decide +kernel
theorem dX8_digest_126 : decode cX8_digest 126 = .ok (.iconst 0, 1) := by decide +kernel
theorem dX8_digest_127 : decode cX8_digest 127 = .ok (.iload_n 3, 1) := by decide +kernel
theorem dX8_digest_128 : decode cX8_digest 128 = .ok (.invokevirtual 213, 3) := by decide +kernel
theorem dX8_digest_131 : decode cX8_digest 131 = .ok (.i2l, 1) := by decide +kernel
theorem dX8_digest_132 : decode cX8_digest 132 = .ok (.ladd, 1) := by decide +kernel
theorem dX8_digest_133 : decode cX8_digest 133 = .ok (.lstore_n 1, 1) := by decide +kernel
theorem dX8_digest_134 : decode cX8_digest 134 = .ok (.ldc2_w 277, 3) := by decide +kernel
theorem dX8_digest_137 : decode cX8_digest 137 = .ok (.lload_n 1, 1) := by decide +kernel
theorem dX8_digest_138 : decode cX8_digest 138 = .ok (.lmul, 1) := by decide +kernel
theorem dX8_digest_139 : decode cX8_digest 139 = .ok (.aload_n 0, 1) := by decide +kernel
theorem dX8_digest_140 : decode cX8_digest 140 = .ok (.iload_n 3, 1) := by decide +kernel
theorem dX8_digest_141 : decode cX8_digest 141 = .ok (.invokevirtual 222, 3) := by decide +kernel
theorem dX8_digest_144 : decode cX8_digest 144 = .ok (.i2l, 1) := by decide +kernel
theorem dX8_digest_145 : decode cX8_digest 145 = .ok (.ladd, 1) := by decide +kernel
theorem dX8_digest_146 : decode cX8_digest 146 = .ok (.lstore_n 1, 1) := by decide +kernel
theorem dX8_digest_147 : decode cX8_digest 147 = .ok (.iinc 3 1, 3) := by decide +kernel
theorem dX8_digest_150 : decode cX8_digest 150 = .ok (.goto (-68), 3) := by decide +kernel
theorem dX8_digest_153 : decode cX8_digest 153 = .ok (.aload_n 0, 1) := by decide +kernel
theorem dX8_digest_154 : decode cX8_digest 154 = .ok (.lload_n 1, 1) := by decide +kernel
theorem dX8_digest_155 : decode cX8_digest 155 = .ok (.iconst 0, 1) := by decide +kernel
theorem dX8_digest_156 : decode cX8_digest 156 = .ok (.invokevirtual 292, 3) := by decide +kernel
theorem dX8_digest_159 : decode cX8_digest 159 = .ok (.lstore_n 1, 1) := by decide +kernel
theorem dX8_digest_160 : decode cX8_digest 160 = .ok (.aload_n 0, 1) := by decide +kernel
theorem dX8_digest_161 : decode cX8_digest 161 = .ok (.lload_n 1, 1) := by decide +kernel
theorem dX8_digest_162 : decode cX8_digest 162 = .ok (.iconst 1, 1) := by decide +kernel
theorem dX8_digest_163 : decode cX8_digest 163 = .ok (.invokevirtual 292, 3) := by decide +kernel
theorem dX8_digest_166 : decode cX8_digest 166 = .ok (.lstore_n 1, 1) := by decide +kernel
theorem dX8_digest_167 : decode cX8_digest 167 = .ok (.aload_n 0, 1) := by decide +kernel
theorem dX8_digest_168 : decode cX8_digest 168 = .ok (.lload_n 1, 1) := by decide +kernel
theorem dX8_digest_169 : decode cX8_digest 169 = .ok (.iconst 5, 1) := by decide +kernel
theorem dX8_digest_170 : decode cX8_digest 170 = .ok (.invokevirtual 292, 3) := by decide +kernel
theorem dX8_digest_173 : decode cX8_digest 173 = .ok (.lstore_n 1, 1) := by decide +kernel
theorem dX8_digest_174 : decode cX8_digest 174 = .ok (.aload_n 0, 1) := by decide +kernel
theorem dX8_digest_175 : decode cX8_digest 175 = .ok (.lload_n 1, 1) := by decide +kernel
theorem dX8_digest_176 : decode cX8_digest 176 = .ok (.bipush 39, 2) := by decide +kernel
theorem dX8_digest_178 : decode cX8_digest 178 = .ok (.invokevirtual 292, 3) := by decide +kernel
theorem dX8_digest_181 : decode cX8_digest 181 = .ok (.lstore_n 1, 1) := by decide +kernel
theorem dX8_digest_182 : decode cX8_digest 182 = .ok (.ldc2_w 277, 3) := by decide +kernel
theorem dX8_digest_185 : decode cX8_digest 185 = .ok (.lload_n 1, 1) := by decide +kernel
theorem dX8_digest_186 : decode cX8_digest 186 = .ok (.lmul, 1) := by decide +kernel
theorem dX8_digest_187 : decode cX8_digest 187 = .ok (.aload_n 0, 1) := by decide +kernel
theorem dX8_digest_188 : decode cX8_digest 188 = .ok (.invokevirtual 200, 3) := by decide +kernel
theorem dX8_digest_191 : decode cX8_digest 191 = .ok (.i2l, 1) := by decide +kernel
theorem dX8_digest_192 : decode cX8_digest 192 = .ok (.ladd, 1) := by decide +kernel
theorem dX8_digest_193 : decode cX8_digest 193 = .ok (.lstore_n 1, 1) := by decide +kernel
theorem dX8_digest_194 : decode cX8_digest 194 = .ok (.ldc2_w 277, 3) := by decide +kernel
theorem dX8_digest_197 : decode cX8_digest 197 = .ok (.lload_n 1, 1) := by decide +kernel
theorem dX8_digest_198 : decode cX8_digest 198 = .ok (.lmul, 1) := by decide +kernel
theorem dX8_digest_199 : decode cX8_digest 199 = .ok (.aload_n 0, 1) := by decide +kernel
theorem dX8_digest_200 : decode cX8_digest 200 = .ok (.invokevirtual 207, 3) := by decide +kernel
theorem dX8_digest_203 : decode cX8_digest 203 = .ok (.i2l, 1) := by decide +kernel
theorem dX8_digest_204 : decode cX8_digest 204 = .ok (.ladd, 1) := by decide +kernel
theorem dX8_digest_205 : decode cX8_digest 205 = .ok (.lstore_n 1, 1) := by decide +kernel
theorem dX8_digest_206 : decode cX8_digest 206 = .ok (.ldc2_w 277, 3) := by decide +kernel
theorem dX8_digest_209 : decode cX8_digest 209 = .ok (.lload_n 1, 1) := by decide +kernel
theorem dX8_digest_210 : decode cX8_digest 210 = .ok (.lmul, 1) := by decide +kernel
theorem dX8_digest_211 : decode cX8_digest 211 = .ok (.aload_n 0, 1) := by decide +kernel
theorem dX8_digest_212 : decode cX8_digest 212 = .ok (.invokevirtual 210, 3) := by decide +kernel
theorem dX8_digest_215 : decode cX8_digest 215 = .ok (.i2l, 1) := by decide +kernel
theorem dX8_digest_216 : decode cX8_digest 216 = .ok (.ladd, 1) := by decide +kernel
theorem dX8_digest_217 : decode cX8_digest 217 = .ok (.lstore_n 1, 1) := by decide +kernel
theorem dX8_digest_218 : decode cX8_digest 218 = .ok (.ldc2_w 277, 3) := by decide +kernel
theorem dX8_digest_221 : decode cX8_digest 221 = .ok (.lload_n 1, 1) := by decide +kernel
theorem dX8_digest_222 : decode cX8_digest 222 = .ok (.lmul, 1) := by decide +kernel
theorem dX8_digest_223 : decode cX8_digest 223 = .ok (.aload_n 0, 1) := by decide +kernel
theorem dX8_digest_224 : decode cX8_digest 224 = .ok (.bipush (-2), 2) := by decide +kernel
theorem dX8_digest_226 : decode cX8_digest 226 = .ok (.invokevirtual 219, 3) := by decide +kernel
theorem dX8_digest_229 : decode cX8_digest 229 = .ok (.i2l, 1) := by decide +kernel
theorem dX8_digest_230 : decode cX8_digest 230 = .ok (.ladd, 1) := by decide +kernel
theorem dX8_digest_231 : decode cX8_digest 231 = .ok (.lstore_n 1, 1) := by decide +kernel
theorem dX8_digest_232 : decode cX8_digest 232 = .ok (.ldc2_w 277, 3) := by decide +kernel
theorem dX8_digest_235 : decode cX8_digest 235 = .ok (.lload_n 1, 1) := by decide +kernel
theorem dX8_digest_236 : decode cX8_digest 236 = .ok (.lmul, 1) := by decide +kernel
theorem dX8_digest_237 : decode cX8_digest 237 = .ok (.aload_n 0, 1) := by decide +kernel
theorem dX8_digest_238 : decode cX8_digest 238 = .ok (.iconst (-1), 1) := by decide +kernel
theorem dX8_digest_239 : decode cX8_digest 239 = .ok (.invokevirtual 219, 3) := by decide +kernel
theorem dX8_digest_242 : decode cX8_digest 242 = .ok (.i2l, 1) := by decide +kernel
theorem dX8_digest_243 : decode cX8_digest 243 = .ok (.ladd, 1) := by decide +kernel
theorem dX8_digest_244 : decode cX8_digest 244 = .ok (.lstore_n 1, 1) := by decide +kernel
theorem dX8_digest_245 : decode cX8_digest 245 = .ok (.ldc2_w 277, 3) := by decide +kernel
theorem dX8_digest_248 : decode cX8_digest 248 = .ok (.lload_n 1, 1) := by decide +kernel
theorem dX8_digest_249 : decode cX8_digest 249 = .ok (.lmul, 1) := by decide +kernel
theorem dX8_digest_250 : decode cX8_digest 250 = .ok (.aload_n 0, 1) := by decide +kernel
theorem dX8_digest_251 : decode cX8_digest 251 = .ok (.bipush 8, 2) := by decide +kernel
theorem dX8_digest_253 : decode cX8_digest 253 = .ok (.invokevirtual 239, 3) := by decide +kernel
theorem dX8_digest_256 : decode cX8_digest 256 = .ok (.i2l, 1) := by decide +kernel
theorem dX8_digest_257 : decode cX8_digest 257 = .ok (.ladd, 1) := by decide +kernel
theorem dX8_digest_258 : decode cX8_digest 258 = .ok (.lstore_n 1, 1) := by decide +kernel
theorem dX8_digest_259 : decode cX8_digest 259 = .ok (.ldc2_w 277, 3) := by decide +kernel
theorem dX8_digest_262 : decode cX8_digest 262 = .ok (.lload_n 1, 1) := by decide +kernel
theorem dX8_digest_263 : decode cX8_digest 263 = .ok (.lmul, 1) := by decide +kernel
theorem dX8_digest_264 : decode cX8_digest 264 = .ok (.aload_n 0, 1) := by decide +kernel
theorem dX8_digest_265 : decode cX8_digest 265 = .ok (.iconst (-1), 1) := by decide +kernel
theorem dX8_digest_266 : decode cX8_digest 266 = .ok (.invokevirtual 242, 3) := by decide +kernel
theorem dX8_digest_269 : decode cX8_digest 269 = .ok (.i2l, 1) := by decide +kernel
theorem dX8_digest_270 : decode cX8_digest 270 = .ok (.ladd, 1) := by decide +kernel
theorem dX8_digest_271 : decode cX8_digest 271 = .ok (.lstore_n 1, 1) := by decide +kernel
theorem dX8_digest_272 : decode cX8_digest 272 = .ok (.ldc2_w 277, 3) := by decide +kernel
theorem dX8_digest_275 : decode cX8_digest 275 = .ok (.lload_n 1, 1) := by decide +kernel
theorem dX8_digest_276 : decode cX8_digest 276 = .ok (.lmul, 1) := by decide +kernel
theorem dX8_digest_277 : decode cX8_digest 277 = .ok (.aload_n 0, 1) := by decide +kernel
theorem dX8_digest_278 : decode cX8_digest 278 = .ok (.iconst 0, 1) := by decide +kernel
theorem dX8_digest_279 : decode cX8_digest 279 = .ok (.invokevirtual 242, 3) := by decide +kernel
theorem dX8_digest_282 : decode cX8_digest 282 = .ok (.i2l, 1) := by decide +kernel
theorem dX8_digest_283 : decode cX8_digest 283 = .ok (.ladd, 1) := by decide +kernel
theorem dX8_digest_284 : decode cX8_digest 284 = .ok (.lstore_n 1, 1) := by decide +kernel
theorem dX8_digest_285 : decode cX8_digest 285 = .ok (.ldc2_w 277, 3) := by decide +kernel
theorem dX8_digest_288 : decode cX8_digest 288 = .ok (.lload_n 1, 1) := by decide +kernel
theorem dX8_digest_289 : decode cX8_digest 289 = .ok (.lmul, 1) := by decide +kernel
theorem dX8_digest_290 : decode cX8_digest 290 = .ok (.aload_n 0, 1) := by decide +kernel
theorem dX8_digest_291 : decode cX8_digest 291 = .ok (.iconst (-1), 1) := by decide +kernel
theorem dX8_digest_292 : decode cX8_digest 292 = .ok (.invokevirtual 251, 3) := by decide +kernel
theorem dX8_digest_295 : decode cX8_digest 295 = .ok (.i2l, 1) := by decide +kernel
theorem dX8_digest_296 : decode cX8_digest 296 = .ok (.ladd, 1) := by decide +kernel
theorem dX8_digest_297 : decode cX8_digest 297 = .ok (.lstore_n 1, 1) := by decide +kernel
theorem dX8_digest_298 : decode cX8_digest 298 = .ok (.ldc2_w 277, 3) := by decide +kernel
theorem dX8_digest_301 : decode cX8_digest 301 = .ok (.lload_n 1, 1) := by decide +kernel
theorem dX8_digest_302 : decode cX8_digest 302 = .ok (.lmul, 1) := by decide +kernel
theorem dX8_digest_303 : decode cX8_digest 303 = .ok (.aload_n 0, 1) := by decide +kernel
theorem dX8_digest_304 : decode cX8_digest 304 = .ok (.bipush 7, 2) := by decide +kernel
theorem dX8_digest_306 : decode cX8_digest 306 = .ok (.bipush 20, 2) := by decide +kernel
theorem dX8_digest_308 : decode cX8_digest 308 = .ok (.iconst 0, 1) := by decide +kernel
theorem dX8_digest_309 : decode cX8_digest 309 = .ok (.invokevirtual 261, 3) := by decide +kernel
theorem dX8_digest_312 : decode cX8_digest 312 = .ok (.i2l, 1) := by decide +kernel
theorem dX8_digest_313 : decode cX8_digest 313 = .ok (.ladd, 1) := by decide +kernel
theorem dX8_digest_314 : decode cX8_digest 314 = .ok (.lstore_n 1, 1) := by decide +kernel
theorem dX8_digest_315 : decode cX8_digest 315 = .ok (.ldc2_w 277, 3) := by decide +kernel
theorem dX8_digest_318 : decode cX8_digest 318 = .ok (.lload_n 1, 1) := by decide +kernel
theorem dX8_digest_319 : decode cX8_digest 319 = .ok (.lmul, 1) := by decide +kernel
theorem dX8_digest_320 : decode cX8_digest 320 = .ok (.aload_n 0, 1) := by decide +kernel
theorem dX8_digest_321 : decode cX8_digest 321 = .ok (.bipush 7, 2) := by decide +kernel
theorem dX8_digest_323 : decode cX8_digest 323 = .ok (.bipush 20, 2) := by decide +kernel
theorem dX8_digest_325 : decode cX8_digest 325 = .ok (.iconst 1, 1) := by decide +kernel
theorem dX8_digest_326 : decode cX8_digest 326 = .ok (.invokevirtual 261, 3) := by decide +kernel
theorem dX8_digest_329 : decode cX8_digest 329 = .ok (.i2l, 1) := by decide +kernel
theorem dX8_digest_330 : decode cX8_digest 330 = .ok (.ladd, 1) := by decide +kernel
theorem dX8_digest_331 : decode cX8_digest 331 = .ok (.lreturn, 1) := by decide +kernel
