theorem dX0_init_0 : decode cX0_init 0 = .ok (.aload_n 0, 1) := by decide +kernel
theorem dX0_init_1 : decode cX0_init 1 = .ok (.invokespecial 3, 3) := by decide +kernel
theorem dX0_init_4 : decode cX0_init 4 = .ok (.aload_n 0, 1) := by decide +kernel
theorem dX0_init_5 : decode cX0_init 5 = .ok (.bipush 100, 2) := by decide +kernel
theorem dX0_init_7 : decode cX0_init 7 = .ok (.newarray .long, 2) := by decide +kernel
theorem dX0_init_9 : decode cX0_init 9 = .ok (.putfield 9, 3) := by decide +kernel
theorem dX0_init_12 : decode cX0_init 12 = .ok (.aload_n 0, 1) := by decide +kernel
theorem dX0_init_13 : decode cX0_init 13 = .ok (.bipush 100, 2) := by decide +kernel
theorem dX0_init_15 : decode cX0_init 15 = .ok (.newarray .long, 2) := by decide +kernel
theorem dX0_init_17 : decode cX0_init 17 = .ok (.putfield 15, 3) := by decide +kernel
theorem dX0_init_20 : decode cX0_init 20 = .ok (.return_, 1) := by decide +kernel
theorem dX0_forget_0 : decode cX0_forget 0 = .ok (.aload_n 0, 1) := by decide +kernel
theorem dX0_forget_1 : decode cX0_forget 1 = .ok (.getfield 15, 3) := by decide +kernel
theorem dX0_forget_4 : decode cX0_forget 4 = .ok (.lconst 0, 1) := by decide +kernel
theorem dX0_forget_5 : decode cX0_forget 5 = .ok (.invokestatic 18, 3) := by decide +kernel
theorem dX0_forget_8 : decode cX0_forget 8 = .ok (.return_, 1) := by decide +kernel
theorem dX0_keep_0 : decode cX0_keep 0 = .ok (.iload_n 1, 1) := by decide +kernel
theorem dX0_keep_1 : decode cX0_keep 1 = .ok (.ifCond .lt 9, 3) := by decide +kernel
theorem dX0_keep_4 : decode cX0_keep 4 = .ok (.iload_n 1, 1) := by decide +kernel
theorem dX0_keep_5 : decode cX0_keep 5 = .ok (.bipush 99, 2) := by decide +kernel
theorem dX0_keep_7 : decode cX0_keep 7 = .ok (.if_icmp .le 4, 3) := by decide +kernel
theorem dX0_keep_10 : decode cX0_keep 10 = .ok (.return_, 1) := by decide +kernel
theorem dX0_keep_11 : decode cX0_keep 11 = .ok (.aload_n 0, 1) := by decide +kernel
theorem dX0_keep_12 : decode cX0_keep 12 = .ok (.getfield 9, 3) := by decide +kernel
theorem dX0_keep_15 : decode cX0_keep 15 = .ok (.iload_n 1, 1) := by decide +kernel
theorem dX0_keep_16 : decode cX0_keep 16 = .ok (.lload_n 2, 1) := by decide +kernel
theorem dX0_keep_17 : decode cX0_keep 17 = .ok (.lastore, 1) := by decide +kernel
theorem dX0_keep_18 : decode cX0_keep 18 = .ok (.aload_n 0, 1) := by decide +kernel
theorem dX0_keep_19 : decode cX0_keep 19 = .ok (.getfield 15, 3) := by decide +kernel
theorem dX0_keep_22 : decode cX0_keep 22 = .ok (.iload_n 1, 1) := by decide +kernel
theorem dX0_keep_23 : decode cX0_keep 23 = .ok (.lload 4, 2) := by decide +kernel
theorem dX0_keep_25 : decode cX0_keep 25 = .ok (.lastore, 1) := by decide +kernel
theorem dX0_keep_26 : decode cX0_keep 26 = .ok (.return_, 1) := by decide +kernel
theorem dX0_nextToAsk_0 : decode cX0_nextToAsk 0 = .ok (.iload_n 1, 1) := by decide +kernel
theorem dX0_nextToAsk_1 : decode cX0_nextToAsk 1 = .ok (.ifCond .lt 9, 3) := by decide +kernel
theorem dX0_nextToAsk_4 : decode cX0_nextToAsk 4 = .ok (.iload_n 1, 1) := by decide +kernel
theorem dX0_nextToAsk_5 : decode cX0_nextToAsk 5 = .ok (.bipush 99, 2) := by decide +kernel
theorem dX0_nextToAsk_7 : decode cX0_nextToAsk 7 = .ok (.if_icmp .le 5, 3) := by decide +kernel
theorem dX0_nextToAsk_10 : decode cX0_nextToAsk 10 = .ok (.iconst (-1), 1) := by decide +kernel
theorem dX0_nextToAsk_11 : decode cX0_nextToAsk 11 = .ok (.ireturn, 1) := by decide +kernel
theorem dX0_nextToAsk_12 : decode cX0_nextToAsk 12 = .ok (.aload_n 0, 1) := by decide +kernel
theorem dX0_nextToAsk_13 : decode cX0_nextToAsk 13 = .ok (.getfield 15, 3) := by decide +kernel
theorem dX0_nextToAsk_16 : decode cX0_nextToAsk 16 = .ok (.iconst 0, 1) := by decide +kernel
theorem dX0_nextToAsk_17 : decode cX0_nextToAsk 17 = .ok (.laload, 1) := by decide +kernel
theorem dX0_nextToAsk_18 : decode cX0_nextToAsk 18 = .ok (.lconst 0, 1) := by decide +kernel
theorem dX0_nextToAsk_19 : decode cX0_nextToAsk 19 = .ok (.lcmp, 1) := by decide +kernel
theorem dX0_nextToAsk_20 : decode cX0_nextToAsk 20 = .ok (.ifCond .ne 5, 3) := by decide +kernel
theorem dX0_nextToAsk_23 : decode cX0_nextToAsk 23 = .ok (.iconst 0, 1) := by decide +kernel
theorem dX0_nextToAsk_24 : decode cX0_nextToAsk 24 = .ok (.ireturn, 1) := by decide +kernel
theorem dX0_nextToAsk_25 : decode cX0_nextToAsk 25 = .ok (.aload_n 0, 1) := by decide +kernel
theorem dX0_nextToAsk_26 : decode cX0_nextToAsk 26 = .ok (.getfield 15, 3) := by decide +kernel
theorem dX0_nextToAsk_29 : decode cX0_nextToAsk 29 = .ok (.iload_n 1, 1) := by decide +kernel
theorem dX0_nextToAsk_30 : decode cX0_nextToAsk 30 = .ok (.laload, 1) := by decide +kernel
theorem dX0_nextToAsk_31 : decode cX0_nextToAsk 31 = .ok (.lconst 0, 1) := by decide +kernel
theorem dX0_nextToAsk_32 : decode cX0_nextToAsk 32 = .ok (.lcmp, 1) := by decide +kernel
theorem dX0_nextToAsk_33 : decode cX0_nextToAsk 33 = .ok (.ifCond .ne 5, 3) := by decide +kernel
theorem dX0_nextToAsk_36 : decode cX0_nextToAsk 36 = .ok (.iload_n 1, 1) := by decide +kernel
theorem dX0_nextToAsk_37 : decode cX0_nextToAsk 37 = .ok (.ireturn, 1) := by decide +kernel
theorem dX0_nextToAsk_38 : decode cX0_nextToAsk 38 = .ok (.iconst 0, 1) := by decide +kernel
theorem dX0_nextToAsk_39 : decode cX0_nextToAsk 39 = .ok (.istore_n 2, 1) := by decide +kernel
theorem dX0_nextToAsk_40 : decode cX0_nextToAsk 40 = .ok (.iconst 1, 1) := by decide +kernel
theorem dX0_nextToAsk_41 : decode cX0_nextToAsk 41 = .ok (.istore_n 3, 1) := by decide +kernel
theorem dX0_nextToAsk_42 : decode cX0_nextToAsk 42 = .ok (.iload_n 3, 1) := by decide +kernel
theorem dX0_nextToAsk_43 : decode cX0_nextToAsk 43 = .ok (.iload_n 1, 1) := by decide +kernel
theorem dX0_nextToAsk_44 : decode cX0_nextToAsk 44 = .ok (.if_icmp .gt 80, 3) := by decide +kernel
theorem dX0_nextToAsk_47 : decode cX0_nextToAsk 47 = .ok (.aload_n 0, 1) := by decide +kernel
theorem dX0_nextToAsk_48 : decode cX0_nextToAsk 48 = .ok (.getfield 15, 3) := by decide +kernel
theorem dX0_nextToAsk_51 : decode cX0_nextToAsk 51 = .ok (.iload_n 3, 1) := by decide +kernel
theorem dX0_nextToAsk_52 : decode cX0_nextToAsk 52 = .ok (.laload, 1) := by decide +kernel
theorem dX0_nextToAsk_53 : decode cX0_nextToAsk 53 = .ok (.lconst 0, 1) := by decide +kernel
theorem dX0_nextToAsk_54 : decode cX0_nextToAsk 54 = .ok (.lcmp, 1) := by decide +kernel
theorem dX0_nextToAsk_55 : decode cX0_nextToAsk 55 = .ok (.ifCond .ne 6, 3) := by decide +kernel
theorem dX0_nextToAsk_58 : decode cX0_nextToAsk 58 = .ok (.goto 60, 3) := by decide +kernel
theorem dX0_nextToAsk_61 : decode cX0_nextToAsk 61 = .ok (.aload_n 0, 1) := by decide +kernel
theorem dX0_nextToAsk_62 : decode cX0_nextToAsk 62 = .ok (.getfield 9, 3) := by decide +kernel
theorem dX0_nextToAsk_65 : decode cX0_nextToAsk 65 = .ok (.iload_n 2, 1) := by decide +kernel
theorem dX0_nextToAsk_66 : decode cX0_nextToAsk 66 = .ok (.laload, 1) := by decide +kernel
theorem dX0_nextToAsk_67 : decode cX0_nextToAsk 67 = .ok (.aload_n 0, 1) := by decide +kernel
theorem dX0_nextToAsk_68 : decode cX0_nextToAsk 68 = .ok (.getfield 15, 3) := by decide +kernel
theorem dX0_nextToAsk_71 : decode cX0_nextToAsk 71 = .ok (.iload_n 3, 1) := by decide +kernel
theorem dX0_nextToAsk_72 : decode cX0_nextToAsk 72 = .ok (.laload, 1) := by decide +kernel
theorem dX0_nextToAsk_73 : decode cX0_nextToAsk 73 = .ok (.lmul, 1) := by decide +kernel
theorem dX0_nextToAsk_74 : decode cX0_nextToAsk 74 = .ok (.aload_n 0, 1) := by decide +kernel
theorem dX0_nextToAsk_75 : decode cX0_nextToAsk 75 = .ok (.getfield 9, 3) := by decide +kernel
theorem dX0_nextToAsk_78 : decode cX0_nextToAsk 78 = .ok (.iload_n 3, 1) := by decide +kernel
theorem dX0_nextToAsk_79 : decode cX0_nextToAsk 79 = .ok (.laload, 1) := by decide +kernel
theorem dX0_nextToAsk_80 : decode cX0_nextToAsk 80 = .ok (.aload_n 0, 1) := by decide +kernel
theorem dX0_nextToAsk_81 : decode cX0_nextToAsk 81 = .ok (.getfield 15, 3) := by decide +kernel
theorem dX0_nextToAsk_84 : decode cX0_nextToAsk 84 = .ok (.iload_n 2, 1) := by decide +kernel
theorem dX0_nextToAsk_85 : decode cX0_nextToAsk 85 = .ok (.laload, 1) := by decide +kernel
theorem dX0_nextToAsk_86 : decode cX0_nextToAsk 86 = .ok (.lmul, 1) := by decide +kernel
theorem dX0_nextToAsk_87 : decode cX0_nextToAsk 87 = .ok (.lcmp, 1) := by decide +kernel
theorem dX0_nextToAsk_88 : decode cX0_nextToAsk 88 = .ok (.ifCond .ne 7, 3) := by decide +kernel
theorem dX0_nextToAsk_91 : decode cX0_nextToAsk 91 = .ok (.iconst 1, 1) := by decide +kernel
theorem dX0_nextToAsk_92 : decode cX0_nextToAsk 92 = .ok (.goto 4, 3) := by decide +kernel
theorem dX0_nextToAsk_95 : decode cX0_nextToAsk 95 = .ok (.iconst 0, 1) := by decide +kernel
theorem dX0_nextToAsk_96 : decode cX0_nextToAsk 96 = .ok (.istore 4, 2) := by decide +kernel
theorem dX0_nextToAsk_98 : decode cX0_nextToAsk 98 = .ok (.iload_n 3, 1) := by decide +kernel
theorem dX0_nextToAsk_99 : decode cX0_nextToAsk 99 = .ok (.iload_n 2, 1) := by decide +kernel
theorem dX0_nextToAsk_100 : decode cX0_nextToAsk 100 = .ok (.isub, 1) := by decide +kernel
theorem dX0_nextToAsk_101 : decode cX0_nextToAsk 101 = .ok (.iconst 1, 1) := by decide +kernel
theorem dX0_nextToAsk_102 : decode cX0_nextToAsk 102 = .ok (.if_icmp .le 14, 3) := by decide +kernel
theorem dX0_nextToAsk_105 : decode cX0_nextToAsk 105 = .ok (.iload 4, 2) := by decide +kernel
theorem dX0_nextToAsk_107 : decode cX0_nextToAsk 107 = .ok (.ifCond .ne 9, 3) := by decide +kernel
theorem dX0_nextToAsk_110 : decode cX0_nextToAsk 110 = .ok (.iload_n 2, 1) := by decide +kernel
theorem dX0_nextToAsk_111 : decode cX0_nextToAsk 111 = .ok (.iload_n 3, 1) := by decide +kernel
theorem dX0_nextToAsk_112 : decode cX0_nextToAsk 112 = .ok (.iadd, 1) := by decide +kernel
theorem dX0_nextToAsk_113 : decode cX0_nextToAsk 113 = .ok (.iconst 2, 1) := by decide +kernel
theorem dX0_nextToAsk_114 : decode cX0_nextToAsk 114 = .ok (.idiv, 1) := by decide +kernel
theorem dX0_nextToAsk_115 : decode cX0_nextToAsk 115 = .ok (.ireturn, 1) := by decide +kernel
theorem dX0_nextToAsk_116 : decode cX0_nextToAsk 116 = .ok (.iload_n 3, 1) := by decide +kernel
theorem dX0_nextToAsk_117 : decode cX0_nextToAsk 117 = .ok (.istore_n 2, 1) := by decide +kernel
theorem dX0_nextToAsk_118 : decode cX0_nextToAsk 118 = .ok (.iinc 3 1, 3) := by decide +kernel
theorem dX0_nextToAsk_121 : decode cX0_nextToAsk 121 = .ok (.goto (-79), 3) := by decide +kernel
theorem dX0_nextToAsk_124 : decode cX0_nextToAsk 124 = .ok (.iconst (-1), 1) := by decide +kernel
theorem dX0_nextToAsk_125 : decode cX0_nextToAsk 125 = .ok (.ireturn, 1) := by decide +kernel
theorem dX0_greatest_0 : decode cX0_greatest 0 = .ok (.iconst 0, 1) := by decide +kernel
theorem dX0_greatest_1 : decode cX0_greatest 1 = .ok (.istore_n 2, 1) := by decide +kernel
theorem dX0_greatest_2 : decode cX0_greatest 2 = .ok (.iconst 1, 1) := by decide +kernel
theorem dX0_greatest_3 : decode cX0_greatest 3 = .ok (.istore_n 3, 1) := by decide +kernel
theorem dX0_greatest_4 : decode cX0_greatest 4 = .ok (.iload_n 3, 1) := by decide +kernel
theorem dX0_greatest_5 : decode cX0_greatest 5 = .ok (.iload_n 1, 1) := by decide +kernel
theorem dX0_greatest_6 : decode cX0_greatest 6 = .ok (.if_icmp .ge 75, 3) := by decide +kernel
theorem dX0_greatest_9 : decode cX0_greatest 9 = .ok (.iload_n 3, 1) := by decide +kernel
theorem dX0_greatest_10 : decode cX0_greatest 10 = .ok (.bipush 99, 2) := by decide +kernel
theorem dX0_greatest_12 : decode cX0_greatest 12 = .ok (.if_icmp .gt 69, 3) := by decide +kernel
theorem dX0_greatest_15 : decode cX0_greatest 15 = .ok (.aload_n 0, 1) := by decide +kernel
theorem dX0_greatest_16 : decode cX0_greatest 16 = .ok (.getfield 15, 3) := by decide +kernel
theorem dX0_greatest_19 : decode cX0_greatest 19 = .ok (.iload_n 3, 1) := by decide +kernel
theorem dX0_greatest_20 : decode cX0_greatest 20 = .ok (.laload, 1) := by decide +kernel
theorem dX0_greatest_21 : decode cX0_greatest 21 = .ok (.lconst 0, 1) := by decide +kernel
theorem dX0_greatest_22 : decode cX0_greatest 22 = .ok (.lcmp, 1) := by decide +kernel
theorem dX0_greatest_23 : decode cX0_greatest 23 = .ok (.ifCond .ne 6, 3) := by decide +kernel
theorem dX0_greatest_26 : decode cX0_greatest 26 = .ok (.goto 49, 3) := by decide +kernel
theorem dX0_greatest_29 : decode cX0_greatest 29 = .ok (.iload_n 1, 1) := by decide +kernel
theorem dX0_greatest_30 : decode cX0_greatest 30 = .ok (.iload_n 3, 1) := by decide +kernel
theorem dX0_greatest_31 : decode cX0_greatest 31 = .ok (.isub, 1) := by decide +kernel
theorem dX0_greatest_32 : decode cX0_greatest 32 = .ok (.i2l, 1) := by decide +kernel
theorem dX0_greatest_33 : decode cX0_greatest 33 = .ok (.aload_n 0, 1) := by decide +kernel
theorem dX0_greatest_34 : decode cX0_greatest 34 = .ok (.getfield 9, 3) := by decide +kernel
theorem dX0_greatest_37 : decode cX0_greatest 37 = .ok (.iload_n 3, 1) := by decide +kernel
theorem dX0_greatest_38 : decode cX0_greatest 38 = .ok (.laload, 1) := by decide +kernel
theorem dX0_greatest_39 : decode cX0_greatest 39 = .ok (.lmul, 1) := by decide +kernel
theorem dX0_greatest_40 : decode cX0_greatest 40 = .ok (.aload_n 0, 1) := by decide +kernel
theorem dX0_greatest_41 : decode cX0_greatest 41 = .ok (.getfield 15, 3) := by decide +kernel
theorem dX0_greatest_44 : decode cX0_greatest 44 = .ok (.iload_n 2, 1) := by decide +kernel
theorem dX0_greatest_45 : decode cX0_greatest 45 = .ok (.laload, 1) := by decide +kernel
theorem dX0_greatest_46 : decode cX0_greatest 46 = .ok (.lmul, 1) := by decide +kernel
theorem dX0_greatest_47 : decode cX0_greatest 47 = .ok (.lstore 4, 2) := by decide +kernel
theorem dX0_greatest_49 : decode cX0_greatest 49 = .ok (.lload 4, 2) := by decide +kernel
theorem dX0_greatest_51 : decode cX0_greatest 51 = .ok (.iload_n 1, 1) := by decide +kernel
theorem dX0_greatest_52 : decode cX0_greatest 52 = .ok (.iload_n 2, 1) := by decide +kernel
theorem dX0_greatest_53 : decode cX0_greatest 53 = .ok (.isub, 1) := by decide +kernel
theorem dX0_greatest_54 : decode cX0_greatest 54 = .ok (.i2l, 1) := by decide +kernel
theorem dX0_greatest_55 : decode cX0_greatest 55 = .ok (.aload_n 0, 1) := by decide +kernel
theorem dX0_greatest_56 : decode cX0_greatest 56 = .ok (.getfield 9, 3) := by decide +kernel
theorem dX0_greatest_59 : decode cX0_greatest 59 = .ok (.iload_n 2, 1) := by decide +kernel
theorem dX0_greatest_60 : decode cX0_greatest 60 = .ok (.laload, 1) := by decide +kernel
theorem dX0_greatest_61 : decode cX0_greatest 61 = .ok (.lmul, 1) := by decide +kernel
theorem dX0_greatest_62 : decode cX0_greatest 62 = .ok (.aload_n 0, 1) := by decide +kernel
theorem dX0_greatest_63 : decode cX0_greatest 63 = .ok (.getfield 15, 3) := by decide +kernel
theorem dX0_greatest_66 : decode cX0_greatest 66 = .ok (.iload_n 3, 1) := by decide +kernel
theorem dX0_greatest_67 : decode cX0_greatest 67 = .ok (.laload, 1) := by decide +kernel
theorem dX0_greatest_68 : decode cX0_greatest 68 = .ok (.lmul, 1) := by decide +kernel
theorem dX0_greatest_69 : decode cX0_greatest 69 = .ok (.lcmp, 1) := by decide +kernel
theorem dX0_greatest_70 : decode cX0_greatest 70 = .ok (.ifCond .le 5, 3) := by decide +kernel
theorem dX0_greatest_73 : decode cX0_greatest 73 = .ok (.iload_n 3, 1) := by decide +kernel
theorem dX0_greatest_74 : decode cX0_greatest 74 = .ok (.istore_n 2, 1) := by decide +kernel
theorem dX0_greatest_75 : decode cX0_greatest 75 = .ok (.iinc 3 1, 3) := by decide +kernel
theorem dX0_greatest_78 : decode cX0_greatest 78 = .ok (.goto (-74), 3) := by decide +kernel
theorem dX0_greatest_81 : decode cX0_greatest 81 = .ok (.iload_n 2, 1) := by decide +kernel
theorem dX0_greatest_82 : decode cX0_greatest 82 = .ok (.ireturn, 1) := by decide +kernel
theorem dX1_init_0 : decode cX1_init 0 = .ok (.aload_n 0, 1) := by decide +kernel
theorem dX1_init_1 : decode cX1_init 1 = .ok (.invokespecial 3, 3) := by decide +kernel
theorem dX1_init_4 : decode cX1_init 4 = .ok (.aload_n 0, 1) := by decide +kernel
theorem dX1_init_5 : decode cX1_init 5 = .ok (.bipush 14, 2) := by decide +kernel
theorem dX1_init_7 : decode cX1_init 7 = .ok (.iconst 5, 1) := by decide +kernel
theorem dX1_init_8 : decode cX1_init 8 = .ok (.multianewarray 11 2, 4) := by decide +kernel
theorem dX1_init_12 : decode cX1_init 12 = .ok (.putfield 13, 3) := by decide +kernel
theorem dX1_init_15 : decode cX1_init 15 = .ok (.aload_n 0, 1) := by decide +kernel
theorem dX1_init_16 : decode cX1_init 16 = .ok (.iconst 4, 1) := by decide +kernel
theorem dX1_init_17 : decode cX1_init 17 = .ok (.newarray .int, 2) := by decide +kernel
theorem dX1_init_19 : decode cX1_init 19 = .ok (.putfield 16, 3) := by decide +kernel
theorem dX1_init_22 : decode cX1_init 22 = .ok (.aload_n 0, 1) := by decide +kernel
theorem dX1_init_23 : decode cX1_init 23 = .ok (.iconst 4, 1) := by decide +kernel
theorem dX1_init_24 : decode cX1_init 24 = .ok (.newarray .int, 2) := by decide +kernel
theorem dX1_init_26 : decode cX1_init 26 = .ok (.putfield 20, 3) := by decide +kernel
theorem dX1_init_29 : decode cX1_init 29 = .ok (.aload_n 0, 1) := by decide +kernel
theorem dX1_init_30 : decode cX1_init 30 = .ok (.new 23, 3) := by decide +kernel
theorem dX1_init_33 : decode cX1_init 33 = .ok (.dup, 1) := by decide +kernel
theorem dX1_init_34 : decode cX1_init 34 = .ok (.invokespecial 25, 3) := by decide +kernel
theorem dX1_init_37 : decode cX1_init 37 = .ok (.putfield 26, 3) := by decide +kernel
theorem dX1_init_40 : decode cX1_init 40 = .ok (.aload_n 0, 1) := by decide +kernel
theorem dX1_init_41 : decode cX1_init 41 = .ok (.iconst 0, 1) := by decide +kernel
theorem dX1_init_42 : decode cX1_init 42 = .ok (.putfield 30, 3) := by decide +kernel
theorem dX1_init_45 : decode cX1_init 45 = .ok (.aload_n 0, 1) := by decide +kernel
theorem dX1_init_46 : decode cX1_init 46 = .ok (.iconst 0, 1) := by decide +kernel
theorem dX1_init_47 : decode cX1_init 47 = .ok (.putfield 34, 3) := by decide +kernel
theorem dX1_init_50 : decode cX1_init 50 = .ok (.aload_n 0, 1) := by decide +kernel
theorem dX1_init_51 : decode cX1_init 51 = .ok (.lconst 1, 1) := by decide +kernel
theorem dX1_init_52 : decode cX1_init 52 = .ok (.putfield 37, 3) := by decide +kernel
theorem dX1_init_55 : decode cX1_init 55 = .ok (.aload_n 0, 1) := by decide +kernel
theorem dX1_init_56 : decode cX1_init 56 = .ok (.iconst 0, 1) := by decide +kernel
theorem dX1_init_57 : decode cX1_init 57 = .ok (.putfield 41, 3) := by decide +kernel
theorem dX1_init_60 : decode cX1_init 60 = .ok (.return_, 1) := by decide +kernel
theorem dX1_find_0 : decode cX1_find 0 = .ok (.aload_n 0, 1) := by decide +kernel
theorem dX1_find_1 : decode cX1_find 1 = .ok (.iload_n 3, 1) := by decide +kernel
theorem dX1_find_2 : decode cX1_find 2 = .ok (.putfield 41, 3) := by decide +kernel
theorem dX1_find_5 : decode cX1_find 5 = .ok (.iconst 0, 1) := by decide +kernel
theorem dX1_find_6 : decode cX1_find 6 = .ok (.istore 5, 2) := by decide +kernel
theorem dX1_find_8 : decode cX1_find 8 = .ok (.iload 5, 2) := by decide +kernel
theorem dX1_find_10 : decode cX1_find 10 = .ok (.iconst 4, 1) := by decide +kernel
theorem dX1_find_11 : decode cX1_find 11 = .ok (.if_icmp .ge 40, 3) := by decide +kernel
theorem dX1_find_14 : decode cX1_find 14 = .ok (.aload_n 0, 1) := by decide +kernel
theorem dX1_find_15 : decode cX1_find 15 = .ok (.getfield 16, 3) := by decide +kernel
theorem dX1_find_18 : decode cX1_find 18 = .ok (.iload 5, 2) := by decide +kernel
theorem dX1_find_20 : decode cX1_find 20 = .ok (.iload 5, 2) := by decide +kernel
theorem dX1_find_22 : decode cX1_find 22 = .ok (.aload_n 1, 1) := by decide +kernel
theorem dX1_find_23 : decode cX1_find 23 = .ok (.getfield 44, 3) := by decide +kernel
theorem dX1_find_26 : decode cX1_find 26 = .ok (.if_icmp .ge 17, 3) := by decide +kernel
theorem dX1_find_29 : decode cX1_find 29 = .ok (.aload_n 1, 1) := by decide +kernel
theorem dX1_find_30 : decode cX1_find 30 = .ok (.getfield 49, 3) := by decide +kernel
theorem dX1_find_33 : decode cX1_find 33 = .ok (.iload 5, 2) := by decide +kernel
theorem dX1_find_35 : decode cX1_find 35 = .ok (.baload, 1) := by decide +kernel
theorem dX1_find_36 : decode cX1_find 36 = .ok (.ifCond .ne 7, 3) := by decide +kernel
theorem dX1_find_39 : decode cX1_find 39 = .ok (.iconst (-1), 1) := by decide +kernel
theorem dX1_find_40 : decode cX1_find 40 = .ok (.goto 4, 3) := by decide +kernel
theorem dX1_find_43 : decode cX1_find 43 = .ok (.iconst 0, 1) := by decide +kernel
theorem dX1_find_44 : decode cX1_find 44 = .ok (.iastore, 1) := by decide +kernel
theorem dX1_find_45 : decode cX1_find 45 = .ok (.iinc 5 1, 3) := by decide +kernel
theorem dX1_find_48 : decode cX1_find 48 = .ok (.goto (-40), 3) := by decide +kernel
theorem dX1_find_51 : decode cX1_find 51 = .ok (.aload 4, 2) := by decide +kernel
theorem dX1_find_53 : decode cX1_find 53 = .ok (.iconst 0, 1) := by decide +kernel
theorem dX1_find_54 : decode cX1_find 54 = .ok (.putfield 53, 3) := by decide +kernel
theorem dX1_find_57 : decode cX1_find 57 = .ok (.aload_n 0, 1) := by decide +kernel
theorem dX1_find_58 : decode cX1_find 58 = .ok (.aload_n 1, 1) := by decide +kernel
theorem dX1_find_59 : decode cX1_find 59 = .ok (.iload_n 2, 1) := by decide +kernel
theorem dX1_find_60 : decode cX1_find 60 = .ok (.aload 4, 2) := by decide +kernel
theorem dX1_find_62 : decode cX1_find 62 = .ok (.iconst 0, 1) := by decide +kernel
theorem dX1_find_63 : decode cX1_find 63 = .ok (.invokevirtual 57, 3) := by decide +kernel
theorem dX1_find_66 : decode cX1_find 66 = .ok (.pop, 1) := by decide +kernel
theorem dX1_find_67 : decode cX1_find 67 = .ok (.return_, 1) := by decide +kernel
theorem dX1_search_0 : decode cX1_search 0 = .ok (.iload 4, 2) := by decide +kernel
theorem dX1_search_2 : decode cX1_search 2 = .ok (.iconst 4, 1) := by decide +kernel
theorem dX1_search_3 : decode cX1_search 3 = .ok (.if_icmp .le 5, 3) := by decide +kernel
theorem dX1_search_6 : decode cX1_search 6 = .ok (.iconst 0, 1) := by decide +kernel
theorem dX1_search_7 : decode cX1_search 7 = .ok (.ireturn, 1) := by decide +kernel
theorem dX1_search_8 : decode cX1_search 8 = .ok (.aload_n 0, 1) := by decide +kernel
theorem dX1_search_9 : decode cX1_search 9 = .ok (.aload_n 1, 1) := by decide +kernel
theorem dX1_search_10 : decode cX1_search 10 = .ok (.invokevirtual 61, 3) := by decide +kernel
theorem dX1_search_13 : decode cX1_search 13 = .ok (.aload_n 0, 1) := by decide +kernel
theorem dX1_search_14 : decode cX1_search 14 = .ok (.getfield 26, 3) := by decide +kernel
theorem dX1_search_17 : decode cX1_search 17 = .ok (.aload_n 3, 1) := by decide +kernel
theorem dX1_search_18 : decode cX1_search 18 = .ok (.invokevirtual 65, 3) := by decide +kernel
theorem dX1_search_21 : decode cX1_search 21 = .ok (.ifCond .ne 5, 3) := by decide +kernel
theorem dX1_search_24 : decode cX1_search 24 = .ok (.iconst 0, 1) := by decide +kernel
theorem dX1_search_25 : decode cX1_search 25 = .ok (.ireturn, 1) := by decide +kernel
theorem dX1_search_26 : decode cX1_search 26 = .ok (.iload_n 2, 1) := by decide +kernel
theorem dX1_search_27 : decode cX1_search 27 = .ok (.ifCond .eq 7, 3) := by decide +kernel
theorem dX1_search_30 : decode cX1_search 30 = .ok (.iconst (-1), 1) := by decide +kernel
theorem dX1_search_31 : decode cX1_search 31 = .ok (.goto 8, 3) := by decide +kernel
theorem dX1_search_34 : decode cX1_search 34 = .ok (.aload_n 0, 1) := by decide +kernel
theorem dX1_search_35 : decode cX1_search 35 = .ok (.aload_n 1, 1) := by decide +kernel
theorem dX1_search_36 : decode cX1_search 36 = .ok (.invokevirtual 69, 3) := by decide +kernel
theorem dX1_search_39 : decode cX1_search 39 = .ok (.istore 5, 2) := by decide +kernel
theorem dX1_search_41 : decode cX1_search 41 = .ok (.iload 5, 2) := by decide +kernel
theorem dX1_search_43 : decode cX1_search 43 = .ok (.ifCond .ge 13, 3) := by decide +kernel
theorem dX1_search_46 : decode cX1_search 46 = .ok (.aload_n 3, 1) := by decide +kernel
theorem dX1_search_47 : decode cX1_search 47 = .ok (.aload_n 0, 1) := by decide +kernel
theorem dX1_search_48 : decode cX1_search 48 = .ok (.getfield 26, 3) := by decide +kernel
theorem dX1_search_51 : decode cX1_search 51 = .ok (.invokevirtual 73, 3) := by decide +kernel
theorem dX1_search_54 : decode cX1_search 54 = .ok (.iconst 1, 1) := by decide +kernel
theorem dX1_search_55 : decode cX1_search 55 = .ok (.ireturn, 1) := by decide +kernel
theorem dX1_search_56 : decode cX1_search 56 = .ok (.aload_n 1, 1) := by decide +kernel
theorem dX1_search_57 : decode cX1_search 57 = .ok (.getfield 77, 3) := by decide +kernel
theorem dX1_search_60 : decode cX1_search 60 = .ok (.iload 5, 2) := by decide +kernel
theorem dX1_search_62 : decode cX1_search 62 = .ok (.iaload, 1) := by decide +kernel
theorem dX1_search_63 : decode cX1_search 63 = .ok (.iconst 2, 1) := by decide +kernel
theorem dX1_search_64 : decode cX1_search 64 = .ok (.if_icmp .ne 7, 3) := by decide +kernel
theorem dX1_search_67 : decode cX1_search 67 = .ok (.iconst 1, 1) := by decide +kernel
theorem dX1_search_68 : decode cX1_search 68 = .ok (.goto 4, 3) := by decide +kernel
theorem dX1_search_71 : decode cX1_search 71 = .ok (.iconst 0, 1) := by decide +kernel
theorem dX1_search_72 : decode cX1_search 72 = .ok (.istore 6, 2) := by decide +kernel
theorem dX1_search_74 : decode cX1_search 74 = .ok (.iload 6, 2) := by decide +kernel
theorem dX1_search_76 : decode cX1_search 76 = .ok (.ifCond .eq 7, 3) := by decide +kernel
theorem dX1_search_79 : decode cX1_search 79 = .ok (.iconst 0, 1) := by decide +kernel
theorem dX1_search_80 : decode cX1_search 80 = .ok (.goto 28, 3) := by decide +kernel
theorem dX1_search_83 : decode cX1_search 83 = .ok (.aload_n 0, 1) := by decide +kernel
theorem dX1_search_84 : decode cX1_search 84 = .ok (.getfield 26, 3) := by decide +kernel
theorem dX1_search_87 : decode cX1_search 87 = .ok (.getfield 80, 3) := by decide +kernel
theorem dX1_search_90 : decode cX1_search 90 = .ok (.iload 5, 2) := by decide +kernel
theorem dX1_search_92 : decode cX1_search 92 = .ok (.laload, 1) := by decide +kernel
theorem dX1_search_93 : decode cX1_search 93 = .ok (.aload_n 0, 1) := by decide +kernel
theorem dX1_search_94 : decode cX1_search 94 = .ok (.getfield 26, 3) := by decide +kernel
theorem dX1_search_97 : decode cX1_search 97 = .ok (.getfield 84, 3) := by decide +kernel
theorem dX1_search_100 : decode cX1_search 100 = .ok (.lconst 1, 1) := by decide +kernel
theorem dX1_search_101 : decode cX1_search 101 = .ok (.invokestatic 85, 3) := by decide +kernel
theorem dX1_search_104 : decode cX1_search 104 = .ok (.invokestatic 91, 3) := by decide +kernel
theorem dX1_search_107 : decode cX1_search 107 = .ok (.l2i, 1) := by decide +kernel
theorem dX1_search_108 : decode cX1_search 108 = .ok (.istore 7, 2) := by decide +kernel
theorem dX1_search_110 : decode cX1_search 110 = .ok (.iload 6, 2) := by decide +kernel
theorem dX1_search_112 : decode cX1_search 112 = .ok (.ifCond .eq 13, 3) := by decide +kernel
theorem dX1_search_115 : decode cX1_search 115 = .ok (.aload_n 1, 1) := by decide +kernel
theorem dX1_search_116 : decode cX1_search 116 = .ok (.getfield 94, 3) := by decide +kernel
theorem dX1_search_119 : decode cX1_search 119 = .ok (.iload 5, 2) := by decide +kernel
theorem dX1_search_121 : decode cX1_search 121 = .ok (.iaload, 1) := by decide +kernel
theorem dX1_search_122 : decode cX1_search 122 = .ok (.goto 7, 3) := by decide +kernel
theorem dX1_search_125 : decode cX1_search 125 = .ok (.iload 7, 2) := by decide +kernel
theorem dX1_search_127 : decode cX1_search 127 = .ok (.iconst 1, 1) := by decide +kernel
theorem dX1_search_128 : decode cX1_search 128 = .ok (.iadd, 1) := by decide +kernel
theorem dX1_search_129 : decode cX1_search 129 = .ok (.istore 8, 2) := by decide +kernel
theorem dX1_search_131 : decode cX1_search 131 = .ok (.iload 7, 2) := by decide +kernel
theorem dX1_search_133 : decode cX1_search 133 = .ok (.istore 9, 2) := by decide +kernel
theorem dX1_search_135 : decode cX1_search 135 = .ok (.iload 9, 2) := by decide +kernel
theorem dX1_search_137 : decode cX1_search 137 = .ok (.ifCond .lt 35, 3) := by decide +kernel
theorem dX1_search_140 : decode cX1_search 140 = .ok (.aload_n 0, 1) := by decide +kernel
theorem dX1_search_141 : decode cX1_search 141 = .ok (.getfield 16, 3) := by decide +kernel
theorem dX1_search_144 : decode cX1_search 144 = .ok (.iload 5, 2) := by decide +kernel
theorem dX1_search_146 : decode cX1_search 146 = .ok (.iload 9, 2) := by decide +kernel
theorem dX1_search_148 : decode cX1_search 148 = .ok (.iastore, 1) := by decide +kernel
theorem dX1_search_149 : decode cX1_search 149 = .ok (.aload_n 0, 1) := by decide +kernel
theorem dX1_search_150 : decode cX1_search 150 = .ok (.aload_n 1, 1) := by decide +kernel
theorem dX1_search_151 : decode cX1_search 151 = .ok (.iconst 0, 1) := by decide +kernel
theorem dX1_search_152 : decode cX1_search 152 = .ok (.aload_n 3, 1) := by decide +kernel
theorem dX1_search_153 : decode cX1_search 153 = .ok (.iload 4, 2) := by decide +kernel
theorem dX1_search_155 : decode cX1_search 155 = .ok (.iconst 1, 1) := by decide +kernel
theorem dX1_search_156 : decode cX1_search 156 = .ok (.iadd, 1) := by decide +kernel
theorem dX1_search_157 : decode cX1_search 157 = .ok (.invokevirtual 57, 3) := by decide +kernel
theorem dX1_search_160 : decode cX1_search 160 = .ok (.ifCond .ne 6, 3) := by decide +kernel
theorem dX1_search_163 : decode cX1_search 163 = .ok (.goto 9, 3) := by decide +kernel
theorem dX1_search_166 : decode cX1_search 166 = .ok (.iinc 9 (-1), 3) := by decide +kernel
theorem dX1_search_169 : decode cX1_search 169 = .ok (.goto (-34), 3) := by decide +kernel
theorem dX1_search_172 : decode cX1_search 172 = .ok (.iload 8, 2) := by decide +kernel
theorem dX1_search_174 : decode cX1_search 174 = .ok (.istore 9, 2) := by decide +kernel
theorem dX1_search_176 : decode cX1_search 176 = .ok (.iload 9, 2) := by decide +kernel
theorem dX1_search_178 : decode cX1_search 178 = .ok (.aload_n 1, 1) := by decide +kernel
theorem dX1_search_179 : decode cX1_search 179 = .ok (.getfield 94, 3) := by decide +kernel
theorem dX1_search_182 : decode cX1_search 182 = .ok (.iload 5, 2) := by decide +kernel
theorem dX1_search_184 : decode cX1_search 184 = .ok (.iaload, 1) := by decide +kernel
theorem dX1_search_185 : decode cX1_search 185 = .ok (.if_icmp .gt 35, 3) := by decide +kernel
theorem dX1_search_188 : decode cX1_search 188 = .ok (.aload_n 0, 1) := by decide +kernel
theorem dX1_search_189 : decode cX1_search 189 = .ok (.getfield 16, 3) := by decide +kernel
theorem dX1_search_192 : decode cX1_search 192 = .ok (.iload 5, 2) := by decide +kernel
theorem dX1_search_194 : decode cX1_search 194 = .ok (.iload 9, 2) := by decide +kernel
theorem dX1_search_196 : decode cX1_search 196 = .ok (.iastore, 1) := by decide +kernel
theorem dX1_search_197 : decode cX1_search 197 = .ok (.aload_n 0, 1) := by decide +kernel
theorem dX1_search_198 : decode cX1_search 198 = .ok (.aload_n 1, 1) := by decide +kernel
theorem dX1_search_199 : decode cX1_search 199 = .ok (.iconst 0, 1) := by decide +kernel
theorem dX1_search_200 : decode cX1_search 200 = .ok (.aload_n 3, 1) := by decide +kernel
theorem dX1_search_201 : decode cX1_search 201 = .ok (.iload 4, 2) := by decide +kernel
theorem dX1_search_203 : decode cX1_search 203 = .ok (.iconst 1, 1) := by decide +kernel
theorem dX1_search_204 : decode cX1_search 204 = .ok (.iadd, 1) := by decide +kernel
theorem dX1_search_205 : decode cX1_search 205 = .ok (.invokevirtual 57, 3) := by decide +kernel
theorem dX1_search_208 : decode cX1_search 208 = .ok (.ifCond .ne 6, 3) := by decide +kernel
theorem dX1_search_211 : decode cX1_search 211 = .ok (.goto 9, 3) := by decide +kernel
theorem dX1_search_214 : decode cX1_search 214 = .ok (.iinc 9 1, 3) := by decide +kernel
theorem dX1_search_217 : decode cX1_search 217 = .ok (.goto (-41), 3) := by decide +kernel
theorem dX1_search_220 : decode cX1_search 220 = .ok (.aload_n 0, 1) := by decide +kernel
theorem dX1_search_221 : decode cX1_search 221 = .ok (.getfield 16, 3) := by decide +kernel
theorem dX1_search_224 : decode cX1_search 224 = .ok (.iload 5, 2) := by decide +kernel
theorem dX1_search_226 : decode cX1_search 226 = .ok (.iconst (-1), 1) := by decide +kernel
theorem dX1_search_227 : decode cX1_search 227 = .ok (.iastore, 1) := by decide +kernel
theorem dX1_search_228 : decode cX1_search 228 = .ok (.iconst 1, 1) := by decide +kernel
theorem dX1_search_229 : decode cX1_search 229 = .ok (.ireturn, 1) := by decide +kernel
theorem dX1_firstSplit_0 : decode cX1_firstSplit 0 = .ok (.iconst 0, 1) := by decide +kernel
theorem dX1_firstSplit_1 : decode cX1_firstSplit 1 = .ok (.istore_n 2, 1) := by decide +kernel
theorem dX1_firstSplit_2 : decode cX1_firstSplit 2 = .ok (.iload_n 2, 1) := by decide +kernel
theorem dX1_firstSplit_3 : decode cX1_firstSplit 3 = .ok (.aload_n 1, 1) := by decide +kernel
theorem dX1_firstSplit_4 : decode cX1_firstSplit 4 = .ok (.getfield 44, 3) := by decide +kernel
theorem dX1_firstSplit_7 : decode cX1_firstSplit 7 = .ok (.if_icmp .ge 87, 3) := by decide +kernel
theorem dX1_firstSplit_10 : decode cX1_firstSplit 10 = .ok (.aload_n 0, 1) := by decide +kernel
theorem dX1_firstSplit_11 : decode cX1_firstSplit 11 = .ok (.getfield 26, 3) := by decide +kernel
theorem dX1_firstSplit_14 : decode cX1_firstSplit 14 = .ok (.getfield 80, 3) := by decide +kernel
theorem dX1_firstSplit_17 : decode cX1_firstSplit 17 = .ok (.iload_n 2, 1) := by decide +kernel
theorem dX1_firstSplit_18 : decode cX1_firstSplit 18 = .ok (.laload, 1) := by decide +kernel
theorem dX1_firstSplit_19 : decode cX1_firstSplit 19 = .ok (.lstore_n 3, 1) := by decide +kernel
theorem dX1_firstSplit_20 : decode cX1_firstSplit 20 = .ok (.aload_n 1, 1) := by decide +kernel
theorem dX1_firstSplit_21 : decode cX1_firstSplit 21 = .ok (.getfield 77, 3) := by decide +kernel
theorem dX1_firstSplit_24 : decode cX1_firstSplit 24 = .ok (.iload_n 2, 1) := by decide +kernel
theorem dX1_firstSplit_25 : decode cX1_firstSplit 25 = .ok (.iaload, 1) := by decide +kernel
theorem dX1_firstSplit_26 : decode cX1_firstSplit 26 = .ok (.iconst 1, 1) := by decide +kernel
theorem dX1_firstSplit_27 : decode cX1_firstSplit 27 = .ok (.if_icmp .ne 23, 3) := by decide +kernel
theorem dX1_firstSplit_30 : decode cX1_firstSplit 30 = .ok (.lload_n 3, 1) := by decide +kernel
theorem dX1_firstSplit_31 : decode cX1_firstSplit 31 = .ok (.aload_n 0, 1) := by decide +kernel
theorem dX1_firstSplit_32 : decode cX1_firstSplit 32 = .ok (.getfield 26, 3) := by decide +kernel
theorem dX1_firstSplit_35 : decode cX1_firstSplit 35 = .ok (.getfield 84, 3) := by decide +kernel
theorem dX1_firstSplit_38 : decode cX1_firstSplit 38 = .ok (.lconst 1, 1) := by decide +kernel
theorem dX1_firstSplit_39 : decode cX1_firstSplit 39 = .ok (.invokestatic 85, 3) := by decide +kernel
theorem dX1_firstSplit_42 : decode cX1_firstSplit 42 = .ok (.lrem, 1) := by decide +kernel
theorem dX1_firstSplit_43 : decode cX1_firstSplit 43 = .ok (.lconst 0, 1) := by decide +kernel
theorem dX1_firstSplit_44 : decode cX1_firstSplit 44 = .ok (.lcmp, 1) := by decide +kernel
theorem dX1_firstSplit_45 : decode cX1_firstSplit 45 = .ok (.ifCond .eq 5, 3) := by decide +kernel
theorem dX1_firstSplit_48 : decode cX1_firstSplit 48 = .ok (.iload_n 2, 1) := by decide +kernel
theorem dX1_firstSplit_49 : decode cX1_firstSplit 49 = .ok (.ireturn, 1) := by decide +kernel
theorem dX1_firstSplit_50 : decode cX1_firstSplit 50 = .ok (.aload_n 1, 1) := by decide +kernel
theorem dX1_firstSplit_51 : decode cX1_firstSplit 51 = .ok (.getfield 77, 3) := by decide +kernel
theorem dX1_firstSplit_54 : decode cX1_firstSplit 54 = .ok (.iload_n 2, 1) := by decide +kernel
theorem dX1_firstSplit_55 : decode cX1_firstSplit 55 = .ok (.iaload, 1) := by decide +kernel
theorem dX1_firstSplit_56 : decode cX1_firstSplit 56 = .ok (.iconst 2, 1) := by decide +kernel
theorem dX1_firstSplit_57 : decode cX1_firstSplit 57 = .ok (.if_icmp .ne 31, 3) := by decide +kernel
theorem dX1_firstSplit_60 : decode cX1_firstSplit 60 = .ok (.lload_n 3, 1) := by decide +kernel
theorem dX1_firstSplit_61 : decode cX1_firstSplit 61 = .ok (.lconst 0, 1) := by decide +kernel
theorem dX1_firstSplit_62 : decode cX1_firstSplit 62 = .ok (.lcmp, 1) := by decide +kernel
theorem dX1_firstSplit_63 : decode cX1_firstSplit 63 = .ok (.ifCond .eq 25, 3) := by decide +kernel
theorem dX1_firstSplit_66 : decode cX1_firstSplit 66 = .ok (.lload_n 3, 1) := by decide +kernel
theorem dX1_firstSplit_67 : decode cX1_firstSplit 67 = .ok (.aload_n 1, 1) := by decide +kernel
theorem dX1_firstSplit_68 : decode cX1_firstSplit 68 = .ok (.getfield 94, 3) := by decide +kernel
theorem dX1_firstSplit_71 : decode cX1_firstSplit 71 = .ok (.iload_n 2, 1) := by decide +kernel
theorem dX1_firstSplit_72 : decode cX1_firstSplit 72 = .ok (.iaload, 1) := by decide +kernel
theorem dX1_firstSplit_73 : decode cX1_firstSplit 73 = .ok (.i2l, 1) := by decide +kernel
theorem dX1_firstSplit_74 : decode cX1_firstSplit 74 = .ok (.aload_n 0, 1) := by decide +kernel
theorem dX1_firstSplit_75 : decode cX1_firstSplit 75 = .ok (.getfield 26, 3) := by decide +kernel
theorem dX1_firstSplit_78 : decode cX1_firstSplit 78 = .ok (.getfield 84, 3) := by decide +kernel
theorem dX1_firstSplit_81 : decode cX1_firstSplit 81 = .ok (.lmul, 1) := by decide +kernel
theorem dX1_firstSplit_82 : decode cX1_firstSplit 82 = .ok (.lcmp, 1) := by decide +kernel
theorem dX1_firstSplit_83 : decode cX1_firstSplit 83 = .ok (.ifCond .eq 5, 3) := by decide +kernel
theorem dX1_firstSplit_86 : decode cX1_firstSplit 86 = .ok (.iload_n 2, 1) := by decide +kernel
theorem dX1_firstSplit_87 : decode cX1_firstSplit 87 = .ok (.ireturn, 1) := by decide +kernel
theorem dX1_firstSplit_88 : decode cX1_firstSplit 88 = .ok (.iinc 2 1, 3) := by decide +kernel
theorem dX1_firstSplit_91 : decode cX1_firstSplit 91 = .ok (.goto (-89), 3) := by decide +kernel
theorem dX1_firstSplit_94 : decode cX1_firstSplit 94 = .ok (.iconst (-1), 1) := by decide +kernel
theorem dX1_firstSplit_95 : decode cX1_firstSplit 95 = .ok (.ireturn, 1) := by decide +kernel
theorem dX1_findParts_0 : decode cX1_findParts 0 = .ok (.aload_n 0, 1) := by decide +kernel
theorem dX1_findParts_1 : decode cX1_findParts 1 = .ok (.aload_n 1, 1) := by decide +kernel
theorem dX1_findParts_2 : decode cX1_findParts 2 = .ok (.invokevirtual 97, 3) := by decide +kernel
theorem dX1_findParts_5 : decode cX1_findParts 5 = .ok (.aload_n 0, 1) := by decide +kernel
theorem dX1_findParts_6 : decode cX1_findParts 6 = .ok (.getfield 26, 3) := by decide +kernel
theorem dX1_findParts_9 : decode cX1_findParts 9 = .ok (.iconst 0, 1) := by decide +kernel
theorem dX1_findParts_10 : decode cX1_findParts 10 = .ok (.putfield 53, 3) := by decide +kernel
theorem dX1_findParts_13 : decode cX1_findParts 13 = .ok (.iconst 0, 1) := by decide +kernel
theorem dX1_findParts_14 : decode cX1_findParts 14 = .ok (.istore_n 2, 1) := by decide +kernel
theorem dX1_findParts_15 : decode cX1_findParts 15 = .ok (.iload_n 2, 1) := by decide +kernel
theorem dX1_findParts_16 : decode cX1_findParts 16 = .ok (.sipush 1000, 3) := by decide +kernel
theorem dX1_findParts_19 : decode cX1_findParts 19 = .ok (.if_icmp .ge 43, 3) := by decide +kernel
theorem dX1_findParts_22 : decode cX1_findParts 22 = .ok (.aload_n 0, 1) := by decide +kernel
theorem dX1_findParts_23 : decode cX1_findParts 23 = .ok (.invokevirtual 100, 3) := by decide +kernel
theorem dX1_findParts_26 : decode cX1_findParts 26 = .ok (.istore_n 3, 1) := by decide +kernel
theorem dX1_findParts_27 : decode cX1_findParts 27 = .ok (.iload_n 3, 1) := by decide +kernel
theorem dX1_findParts_28 : decode cX1_findParts 28 = .ok (.ifCond .ge 8, 3) := by decide +kernel
theorem dX1_findParts_31 : decode cX1_findParts 31 = .ok (.aload_n 0, 1) := by decide +kernel
theorem dX1_findParts_32 : decode cX1_findParts 32 = .ok (.invokevirtual 104, 3) := by decide +kernel
theorem dX1_findParts_35 : decode cX1_findParts 35 = .ok (.return_, 1) := by decide +kernel
theorem dX1_findParts_36 : decode cX1_findParts 36 = .ok (.aload_n 0, 1) := by decide +kernel
theorem dX1_findParts_37 : decode cX1_findParts 37 = .ok (.iload_n 3, 1) := by decide +kernel
theorem dX1_findParts_38 : decode cX1_findParts 38 = .ok (.invokevirtual 107, 3) := by decide +kernel
theorem dX1_findParts_41 : decode cX1_findParts 41 = .ok (.istore 4, 2) := by decide +kernel
theorem dX1_findParts_43 : decode cX1_findParts 43 = .ok (.iload 4, 2) := by decide +kernel
theorem dX1_findParts_45 : decode cX1_findParts 45 = .ok (.ifCond .ge 4, 3) := by decide +kernel
theorem dX1_findParts_48 : decode cX1_findParts 48 = .ok (.return_, 1) := by decide +kernel
theorem dX1_findParts_49 : decode cX1_findParts 49 = .ok (.aload_n 0, 1) := by decide +kernel
theorem dX1_findParts_50 : decode cX1_findParts 50 = .ok (.iload_n 3, 1) := by decide +kernel
theorem dX1_findParts_51 : decode cX1_findParts 51 = .ok (.iload 4, 2) := by decide +kernel
theorem dX1_findParts_53 : decode cX1_findParts 53 = .ok (.invokevirtual 111, 3) := by decide +kernel
theorem dX1_findParts_56 : decode cX1_findParts 56 = .ok (.iinc 2 1, 3) := by decide +kernel
theorem dX1_findParts_59 : decode cX1_findParts 59 = .ok (.goto (-44), 3) := by decide +kernel
theorem dX1_findParts_62 : decode cX1_findParts 62 = .ok (.return_, 1) := by decide +kernel
theorem dX1_fillSheet_0 : decode cX1_fillSheet 0 = .ok (.aload_n 0, 1) := by decide +kernel
theorem dX1_fillSheet_1 : decode cX1_fillSheet 1 = .ok (.iconst 0, 1) := by decide +kernel
theorem dX1_fillSheet_2 : decode cX1_fillSheet 2 = .ok (.putfield 30, 3) := by decide +kernel
theorem dX1_fillSheet_5 : decode cX1_fillSheet 5 = .ok (.aload_n 0, 1) := by decide +kernel
theorem dX1_fillSheet_6 : decode cX1_fillSheet 6 = .ok (.lconst 1, 1) := by decide +kernel
theorem dX1_fillSheet_7 : decode cX1_fillSheet 7 = .ok (.putfield 37, 3) := by decide +kernel
theorem dX1_fillSheet_10 : decode cX1_fillSheet 10 = .ok (.iconst 0, 1) := by decide +kernel
theorem dX1_fillSheet_11 : decode cX1_fillSheet 11 = .ok (.istore_n 2, 1) := by decide +kernel
theorem dX1_fillSheet_12 : decode cX1_fillSheet 12 = .ok (.iload_n 2, 1) := by decide +kernel
theorem dX1_fillSheet_13 : decode cX1_fillSheet 13 = .ok (.iconst 4, 1) := by decide +kernel
theorem dX1_fillSheet_14 : decode cX1_fillSheet 14 = .ok (.if_icmp .ge 42, 3) := by decide +kernel
theorem dX1_fillSheet_17 : decode cX1_fillSheet 17 = .ok (.aload_n 0, 1) := by decide +kernel
theorem dX1_fillSheet_18 : decode cX1_fillSheet 18 = .ok (.getfield 16, 3) := by decide +kernel
theorem dX1_fillSheet_21 : decode cX1_fillSheet 21 = .ok (.iload_n 2, 1) := by decide +kernel
theorem dX1_fillSheet_22 : decode cX1_fillSheet 22 = .ok (.iaload, 1) := by decide +kernel
theorem dX1_fillSheet_23 : decode cX1_fillSheet 23 = .ok (.iconst (-1), 1) := by decide +kernel
theorem dX1_fillSheet_24 : decode cX1_fillSheet 24 = .ok (.if_icmp .eq 6, 3) := by decide +kernel
theorem dX1_fillSheet_27 : decode cX1_fillSheet 27 = .ok (.goto 23, 3) := by decide +kernel
theorem dX1_fillSheet_30 : decode cX1_fillSheet 30 = .ok (.aload_n 0, 1) := by decide +kernel
theorem dX1_fillSheet_31 : decode cX1_fillSheet 31 = .ok (.getfield 20, 3) := by decide +kernel
theorem dX1_fillSheet_34 : decode cX1_fillSheet 34 = .ok (.aload_n 0, 1) := by decide +kernel
theorem dX1_fillSheet_35 : decode cX1_fillSheet 35 = .ok (.getfield 30, 3) := by decide +kernel
theorem dX1_fillSheet_38 : decode cX1_fillSheet 38 = .ok (.iload_n 2, 1) := by decide +kernel
theorem dX1_fillSheet_39 : decode cX1_fillSheet 39 = .ok (.iastore, 1) := by decide +kernel
theorem dX1_fillSheet_40 : decode cX1_fillSheet 40 = .ok (.aload_n 0, 1) := by decide +kernel
theorem dX1_fillSheet_41 : decode cX1_fillSheet 41 = .ok (.dup, 1) := by decide +kernel
theorem dX1_fillSheet_42 : decode cX1_fillSheet 42 = .ok (.getfield 30, 3) := by decide +kernel
theorem dX1_fillSheet_45 : decode cX1_fillSheet 45 = .ok (.iconst 1, 1) := by decide +kernel
theorem dX1_fillSheet_46 : decode cX1_fillSheet 46 = .ok (.iadd, 1) := by decide +kernel
theorem dX1_fillSheet_47 : decode cX1_fillSheet 47 = .ok (.putfield 30, 3) := by decide +kernel
theorem dX1_fillSheet_50 : decode cX1_fillSheet 50 = .ok (.iinc 2 1, 3) := by decide +kernel
theorem dX1_fillSheet_53 : decode cX1_fillSheet 53 = .ok (.goto (-41), 3) := by decide +kernel
theorem dX1_fillSheet_56 : decode cX1_fillSheet 56 = .ok (.aload_n 0, 1) := by decide +kernel
theorem dX1_fillSheet_57 : decode cX1_fillSheet 57 = .ok (.iconst 1, 1) := by decide +kernel
theorem dX1_fillSheet_58 : decode cX1_fillSheet 58 = .ok (.iconst 2, 1) := by decide +kernel
theorem dX1_fillSheet_59 : decode cX1_fillSheet 59 = .ok (.aload_n 0, 1) := by decide +kernel
theorem dX1_fillSheet_60 : decode cX1_fillSheet 60 = .ok (.getfield 30, 3) := by decide +kernel
theorem dX1_fillSheet_63 : decode cX1_fillSheet 63 = .ok (.imul, 1) := by decide +kernel
theorem dX1_fillSheet_64 : decode cX1_fillSheet 64 = .ok (.iadd, 1) := by decide +kernel
theorem dX1_fillSheet_65 : decode cX1_fillSheet 65 = .ok (.putfield 34, 3) := by decide +kernel
theorem dX1_fillSheet_68 : decode cX1_fillSheet 68 = .ok (.iconst 0, 1) := by decide +kernel
theorem dX1_fillSheet_69 : decode cX1_fillSheet 69 = .ok (.istore_n 2, 1) := by decide +kernel
theorem dX1_fillSheet_70 : decode cX1_fillSheet 70 = .ok (.iload_n 2, 1) := by decide +kernel
theorem dX1_fillSheet_71 : decode cX1_fillSheet 71 = .ok (.aload_n 0, 1) := by decide +kernel
theorem dX1_fillSheet_72 : decode cX1_fillSheet 72 = .ok (.getfield 34, 3) := by decide +kernel
theorem dX1_fillSheet_75 : decode cX1_fillSheet 75 = .ok (.if_icmp .ge 19, 3) := by decide +kernel
theorem dX1_fillSheet_78 : decode cX1_fillSheet 78 = .ok (.aload_n 0, 1) := by decide +kernel
theorem dX1_fillSheet_79 : decode cX1_fillSheet 79 = .ok (.getfield 13, 3) := by decide +kernel
theorem dX1_fillSheet_82 : decode cX1_fillSheet 82 = .ok (.iload_n 2, 1) := by decide +kernel
theorem dX1_fillSheet_83 : decode cX1_fillSheet 83 = .ok (.aaload, 1) := by decide +kernel
theorem dX1_fillSheet_84 : decode cX1_fillSheet 84 = .ok (.lconst 0, 1) := by decide +kernel
theorem dX1_fillSheet_85 : decode cX1_fillSheet 85 = .ok (.invokestatic 115, 3) := by decide +kernel
theorem dX1_fillSheet_88 : decode cX1_fillSheet 88 = .ok (.iinc 2 1, 3) := by decide +kernel
theorem dX1_fillSheet_91 : decode cX1_fillSheet 91 = .ok (.goto (-21), 3) := by decide +kernel
theorem dX1_fillSheet_94 : decode cX1_fillSheet 94 = .ok (.iconst 0, 1) := by decide +kernel
theorem dX1_fillSheet_95 : decode cX1_fillSheet 95 = .ok (.istore_n 2, 1) := by decide +kernel
theorem dX1_fillSheet_96 : decode cX1_fillSheet 96 = .ok (.iload_n 2, 1) := by decide +kernel
theorem dX1_fillSheet_97 : decode cX1_fillSheet 97 = .ok (.iconst 4, 1) := by decide +kernel
theorem dX1_fillSheet_98 : decode cX1_fillSheet 98 = .ok (.if_icmp .ge 44, 3) := by decide +kernel
theorem dX1_fillSheet_101 : decode cX1_fillSheet 101 = .ok (.aload_n 0, 1) := by decide +kernel
theorem dX1_fillSheet_102 : decode cX1_fillSheet 102 = .ok (.getfield 16, 3) := by decide +kernel
theorem dX1_fillSheet_105 : decode cX1_fillSheet 105 = .ok (.iload_n 2, 1) := by decide +kernel
theorem dX1_fillSheet_106 : decode cX1_fillSheet 106 = .ok (.iaload, 1) := by decide +kernel
theorem dX1_fillSheet_107 : decode cX1_fillSheet 107 = .ok (.ifCond .le 29, 3) := by decide +kernel
theorem dX1_fillSheet_110 : decode cX1_fillSheet 110 = .ok (.aload_n 0, 1) := by decide +kernel
theorem dX1_fillSheet_111 : decode cX1_fillSheet 111 = .ok (.getfield 13, 3) := by decide +kernel
theorem dX1_fillSheet_114 : decode cX1_fillSheet 114 = .ok (.iconst 0, 1) := by decide +kernel
theorem dX1_fillSheet_115 : decode cX1_fillSheet 115 = .ok (.aaload, 1) := by decide +kernel
theorem dX1_fillSheet_116 : decode cX1_fillSheet 116 = .ok (.iconst 4, 1) := by decide +kernel
theorem dX1_fillSheet_117 : decode cX1_fillSheet 117 = .ok (.dup2, 1) := by decide +kernel
theorem dX1_fillSheet_118 : decode cX1_fillSheet 118 = .ok (.laload, 1) := by decide +kernel
theorem dX1_fillSheet_119 : decode cX1_fillSheet 119 = .ok (.aload_n 1, 1) := by decide +kernel
theorem dX1_fillSheet_120 : decode cX1_fillSheet 120 = .ok (.getfield 121, 3) := by decide +kernel
theorem dX1_fillSheet_123 : decode cX1_fillSheet 123 = .ok (.iload_n 2, 1) := by decide +kernel
theorem dX1_fillSheet_124 : decode cX1_fillSheet 124 = .ok (.iaload, 1) := by decide +kernel
theorem dX1_fillSheet_125 : decode cX1_fillSheet 125 = .ok (.i2l, 1) := by decide +kernel
theorem dX1_fillSheet_126 : decode cX1_fillSheet 126 = .ok (.aload_n 0, 1) := by decide +kernel
theorem dX1_fillSheet_127 : decode cX1_fillSheet 127 = .ok (.getfield 16, 3) := by decide +kernel
theorem dX1_fillSheet_130 : decode cX1_fillSheet 130 = .ok (.iload_n 2, 1) := by decide +kernel
theorem dX1_fillSheet_131 : decode cX1_fillSheet 131 = .ok (.iaload, 1) := by decide +kernel
theorem dX1_fillSheet_132 : decode cX1_fillSheet 132 = .ok (.i2l, 1) := by decide +kernel
theorem dX1_fillSheet_133 : decode cX1_fillSheet 133 = .ok (.lmul, 1) := by decide +kernel
theorem dX1_fillSheet_134 : decode cX1_fillSheet 134 = .ok (.ladd, 1) := by decide +kernel
theorem dX1_fillSheet_135 : decode cX1_fillSheet 135 = .ok (.lastore, 1) := by decide +kernel
theorem dX1_fillSheet_136 : decode cX1_fillSheet 136 = .ok (.iinc 2 1, 3) := by decide +kernel
theorem dX1_fillSheet_139 : decode cX1_fillSheet 139 = .ok (.goto (-43), 3) := by decide +kernel
theorem dX1_fillSheet_142 : decode cX1_fillSheet 142 = .ok (.iconst 0, 1) := by decide +kernel
theorem dX1_fillSheet_143 : decode cX1_fillSheet 143 = .ok (.istore_n 2, 1) := by decide +kernel
theorem dX1_fillSheet_144 : decode cX1_fillSheet 144 = .ok (.iload_n 2, 1) := by decide +kernel
theorem dX1_fillSheet_145 : decode cX1_fillSheet 145 = .ok (.aload_n 0, 1) := by decide +kernel
theorem dX1_fillSheet_146 : decode cX1_fillSheet 146 = .ok (.getfield 30, 3) := by decide +kernel
theorem dX1_fillSheet_149 : decode cX1_fillSheet 149 = .ok (.if_icmp .ge 15, 3) := by decide +kernel
theorem dX1_fillSheet_152 : decode cX1_fillSheet 152 = .ok (.aload_n 0, 1) := by decide +kernel
theorem dX1_fillSheet_153 : decode cX1_fillSheet 153 = .ok (.aload_n 1, 1) := by decide +kernel
theorem dX1_fillSheet_154 : decode cX1_fillSheet 154 = .ok (.iload_n 2, 1) := by decide +kernel
theorem dX1_fillSheet_155 : decode cX1_fillSheet 155 = .ok (.invokevirtual 124, 3) := by decide +kernel
theorem dX1_fillSheet_158 : decode cX1_fillSheet 158 = .ok (.iinc 2 1, 3) := by decide +kernel
theorem dX1_fillSheet_161 : decode cX1_fillSheet 161 = .ok (.goto (-17), 3) := by decide +kernel
theorem dX1_fillSheet_164 : decode cX1_fillSheet 164 = .ok (.iconst 0, 1) := by decide +kernel
theorem dX1_fillSheet_165 : decode cX1_fillSheet 165 = .ok (.istore_n 2, 1) := by decide +kernel
theorem dX1_fillSheet_166 : decode cX1_fillSheet 166 = .ok (.iload_n 2, 1) := by decide +kernel
theorem dX1_fillSheet_167 : decode cX1_fillSheet 167 = .ok (.iconst 5, 1) := by decide +kernel
theorem dX1_fillSheet_168 : decode cX1_fillSheet 168 = .ok (.if_icmp .ge 27, 3) := by decide +kernel
theorem dX1_fillSheet_171 : decode cX1_fillSheet 171 = .ok (.aload_n 0, 1) := by decide +kernel
theorem dX1_fillSheet_172 : decode cX1_fillSheet 172 = .ok (.getfield 41, 3) := by decide +kernel
theorem dX1_fillSheet_175 : decode cX1_fillSheet 175 = .ok (.iload_n 2, 1) := by decide +kernel
theorem dX1_fillSheet_176 : decode cX1_fillSheet 176 = .ok (.ishr, 1) := by decide +kernel
theorem dX1_fillSheet_177 : decode cX1_fillSheet 177 = .ok (.iconst 1, 1) := by decide +kernel
theorem dX1_fillSheet_178 : decode cX1_fillSheet 178 = .ok (.iand, 1) := by decide +kernel
theorem dX1_fillSheet_179 : decode cX1_fillSheet 179 = .ok (.iconst 1, 1) := by decide +kernel
theorem dX1_fillSheet_180 : decode cX1_fillSheet 180 = .ok (.if_icmp .ne 9, 3) := by decide +kernel
theorem dX1_fillSheet_183 : decode cX1_fillSheet 183 = .ok (.aload_n 0, 1) := by decide +kernel
theorem dX1_fillSheet_184 : decode cX1_fillSheet 184 = .ok (.aload_n 1, 1) := by decide +kernel
theorem dX1_fillSheet_185 : decode cX1_fillSheet 185 = .ok (.iload_n 2, 1) := by decide +kernel
theorem dX1_fillSheet_186 : decode cX1_fillSheet 186 = .ok (.invokevirtual 128, 3) := by decide +kernel
theorem dX1_fillSheet_189 : decode cX1_fillSheet 189 = .ok (.iinc 2 1, 3) := by decide +kernel
theorem dX1_fillSheet_192 : decode cX1_fillSheet 192 = .ok (.goto (-26), 3) := by decide +kernel
theorem dX1_fillSheet_195 : decode cX1_fillSheet 195 = .ok (.return_, 1) := by decide +kernel
theorem dX1_fillWish_0 : decode cX1_fillWish 0 = .ok (.aload_n 0, 1) := by decide +kernel
theorem dX1_fillWish_1 : decode cX1_fillWish 1 = .ok (.getfield 20, 3) := by decide +kernel
theorem dX1_fillWish_4 : decode cX1_fillWish 4 = .ok (.iload_n 2, 1) := by decide +kernel
theorem dX1_fillWish_5 : decode cX1_fillWish 5 = .ok (.iaload, 1) := by decide +kernel
theorem dX1_fillWish_6 : decode cX1_fillWish 6 = .ok (.istore_n 3, 1) := by decide +kernel
theorem dX1_fillWish_7 : decode cX1_fillWish 7 = .ok (.aload_n 1, 1) := by decide +kernel
theorem dX1_fillWish_8 : decode cX1_fillWish 8 = .ok (.getfield 121, 3) := by decide +kernel
theorem dX1_fillWish_11 : decode cX1_fillWish 11 = .ok (.iload_n 3, 1) := by decide +kernel
theorem dX1_fillWish_12 : decode cX1_fillWish 12 = .ok (.iaload, 1) := by decide +kernel
theorem dX1_fillWish_13 : decode cX1_fillWish 13 = .ok (.ifCond .le 12, 3) := by decide +kernel
theorem dX1_fillWish_16 : decode cX1_fillWish 16 = .ok (.aload_n 1, 1) := by decide +kernel
theorem dX1_fillWish_17 : decode cX1_fillWish 17 = .ok (.getfield 94, 3) := by decide +kernel
theorem dX1_fillWish_20 : decode cX1_fillWish 20 = .ok (.iload_n 3, 1) := by decide +kernel
theorem dX1_fillWish_21 : decode cX1_fillWish 21 = .ok (.iaload, 1) := by decide +kernel
theorem dX1_fillWish_22 : decode cX1_fillWish 22 = .ok (.goto 4, 3) := by decide +kernel
theorem dX1_fillWish_25 : decode cX1_fillWish 25 = .ok (.iconst 0, 1) := by decide +kernel
theorem dX1_fillWish_26 : decode cX1_fillWish 26 = .ok (.istore 4, 2) := by decide +kernel
theorem dX1_fillWish_28 : decode cX1_fillWish 28 = .ok (.aload_n 1, 1) := by decide +kernel
theorem dX1_fillWish_29 : decode cX1_fillWish 29 = .ok (.getfield 121, 3) := by decide +kernel
theorem dX1_fillWish_32 : decode cX1_fillWish 32 = .ok (.iload_n 3, 1) := by decide +kernel
theorem dX1_fillWish_33 : decode cX1_fillWish 33 = .ok (.iaload, 1) := by decide +kernel
theorem dX1_fillWish_34 : decode cX1_fillWish 34 = .ok (.ifCond .le 7, 3) := by decide +kernel
theorem dX1_fillWish_37 : decode cX1_fillWish 37 = .ok (.iconst (-1), 1) := by decide +kernel
theorem dX1_fillWish_38 : decode cX1_fillWish 38 = .ok (.goto 4, 3) := by decide +kernel
theorem dX1_fillWish_41 : decode cX1_fillWish 41 = .ok (.iconst 1, 1) := by decide +kernel
theorem dX1_fillWish_42 : decode cX1_fillWish 42 = .ok (.istore 5, 2) := by decide +kernel
theorem dX1_fillWish_44 : decode cX1_fillWish 44 = .ok (.aload_n 0, 1) := by decide +kernel
theorem dX1_fillWish_45 : decode cX1_fillWish 45 = .ok (.getfield 13, 3) := by decide +kernel
theorem dX1_fillWish_48 : decode cX1_fillWish 48 = .ok (.iconst 0, 1) := by decide +kernel
theorem dX1_fillWish_49 : decode cX1_fillWish 49 = .ok (.aaload, 1) := by decide +kernel
theorem dX1_fillWish_50 : decode cX1_fillWish 50 = .ok (.iconst 4, 1) := by decide +kernel
theorem dX1_fillWish_51 : decode cX1_fillWish 51 = .ok (.dup2, 1) := by decide +kernel
theorem dX1_fillWish_52 : decode cX1_fillWish 52 = .ok (.laload, 1) := by decide +kernel
theorem dX1_fillWish_53 : decode cX1_fillWish 53 = .ok (.aload_n 1, 1) := by decide +kernel
theorem dX1_fillWish_54 : decode cX1_fillWish 54 = .ok (.getfield 121, 3) := by decide +kernel
theorem dX1_fillWish_57 : decode cX1_fillWish 57 = .ok (.iload_n 3, 1) := by decide +kernel
theorem dX1_fillWish_58 : decode cX1_fillWish 58 = .ok (.iaload, 1) := by decide +kernel
theorem dX1_fillWish_59 : decode cX1_fillWish 59 = .ok (.iload 4, 2) := by decide +kernel
theorem dX1_fillWish_61 : decode cX1_fillWish 61 = .ok (.imul, 1) := by decide +kernel
theorem dX1_fillWish_62 : decode cX1_fillWish 62 = .ok (.i2l, 1) := by decide +kernel
theorem dX1_fillWish_63 : decode cX1_fillWish 63 = .ok (.ladd, 1) := by decide +kernel
theorem dX1_fillWish_64 : decode cX1_fillWish 64 = .ok (.lastore, 1) := by decide +kernel
theorem dX1_fillWish_65 : decode cX1_fillWish 65 = .ok (.aload_n 0, 1) := by decide +kernel
theorem dX1_fillWish_66 : decode cX1_fillWish 66 = .ok (.getfield 13, 3) := by decide +kernel
theorem dX1_fillWish_69 : decode cX1_fillWish 69 = .ok (.iconst 0, 1) := by decide +kernel
theorem dX1_fillWish_70 : decode cX1_fillWish 70 = .ok (.aaload, 1) := by decide +kernel
theorem dX1_fillWish_71 : decode cX1_fillWish 71 = .ok (.iload_n 2, 1) := by decide +kernel
theorem dX1_fillWish_72 : decode cX1_fillWish 72 = .ok (.aload_n 1, 1) := by decide +kernel
theorem dX1_fillWish_73 : decode cX1_fillWish 73 = .ok (.getfield 121, 3) := by decide +kernel
theorem dX1_fillWish_76 : decode cX1_fillWish 76 = .ok (.iload_n 3, 1) := by decide +kernel
theorem dX1_fillWish_77 : decode cX1_fillWish 77 = .ok (.iaload, 1) := by decide +kernel
theorem dX1_fillWish_78 : decode cX1_fillWish 78 = .ok (.iload 5, 2) := by decide +kernel
theorem dX1_fillWish_80 : decode cX1_fillWish 80 = .ok (.imul, 1) := by decide +kernel
theorem dX1_fillWish_81 : decode cX1_fillWish 81 = .ok (.i2l, 1) := by decide +kernel
theorem dX1_fillWish_82 : decode cX1_fillWish 82 = .ok (.lastore, 1) := by decide +kernel
theorem dX1_fillWish_83 : decode cX1_fillWish 83 = .ok (.aload_n 0, 1) := by decide +kernel
theorem dX1_fillWish_84 : decode cX1_fillWish 84 = .ok (.getfield 13, 3) := by decide +kernel
theorem dX1_fillWish_87 : decode cX1_fillWish 87 = .ok (.iconst 1, 1) := by decide +kernel
theorem dX1_fillWish_88 : decode cX1_fillWish 88 = .ok (.iload_n 2, 1) := by decide +kernel
theorem dX1_fillWish_89 : decode cX1_fillWish 89 = .ok (.iadd, 1) := by decide +kernel
theorem dX1_fillWish_90 : decode cX1_fillWish 90 = .ok (.aaload, 1) := by decide +kernel
theorem dX1_fillWish_91 : decode cX1_fillWish 91 = .ok (.iconst 4, 1) := by decide +kernel
theorem dX1_fillWish_92 : decode cX1_fillWish 92 = .ok (.iload 4, 2) := by decide +kernel
theorem dX1_fillWish_94 : decode cX1_fillWish 94 = .ok (.i2l, 1) := by decide +kernel
theorem dX1_fillWish_95 : decode cX1_fillWish 95 = .ok (.lastore, 1) := by decide +kernel
theorem dX1_fillWish_96 : decode cX1_fillWish 96 = .ok (.aload_n 0, 1) := by decide +kernel
theorem dX1_fillWish_97 : decode cX1_fillWish 97 = .ok (.getfield 13, 3) := by decide +kernel
theorem dX1_fillWish_100 : decode cX1_fillWish 100 = .ok (.iconst 1, 1) := by decide +kernel
theorem dX1_fillWish_101 : decode cX1_fillWish 101 = .ok (.iload_n 2, 1) := by decide +kernel
theorem dX1_fillWish_102 : decode cX1_fillWish 102 = .ok (.iadd, 1) := by decide +kernel
theorem dX1_fillWish_103 : decode cX1_fillWish 103 = .ok (.aaload, 1) := by decide +kernel
theorem dX1_fillWish_104 : decode cX1_fillWish 104 = .ok (.iload_n 2, 1) := by decide +kernel
theorem dX1_fillWish_105 : decode cX1_fillWish 105 = .ok (.iload 5, 2) := by decide +kernel
theorem dX1_fillWish_107 : decode cX1_fillWish 107 = .ok (.i2l, 1) := by decide +kernel
theorem dX1_fillWish_108 : decode cX1_fillWish 108 = .ok (.lastore, 1) := by decide +kernel
theorem dX1_fillWish_109 : decode cX1_fillWish 109 = .ok (.aload_n 0, 1) := by decide +kernel
theorem dX1_fillWish_110 : decode cX1_fillWish 110 = .ok (.getfield 13, 3) := by decide +kernel
theorem dX1_fillWish_113 : decode cX1_fillWish 113 = .ok (.iconst 1, 1) := by decide +kernel
theorem dX1_fillWish_114 : decode cX1_fillWish 114 = .ok (.aload_n 0, 1) := by decide +kernel
theorem dX1_fillWish_115 : decode cX1_fillWish 115 = .ok (.getfield 30, 3) := by decide +kernel
theorem dX1_fillWish_118 : decode cX1_fillWish 118 = .ok (.iadd, 1) := by decide +kernel
theorem dX1_fillWish_119 : decode cX1_fillWish 119 = .ok (.iload_n 2, 1) := by decide +kernel
theorem dX1_fillWish_120 : decode cX1_fillWish 120 = .ok (.iadd, 1) := by decide +kernel
theorem dX1_fillWish_121 : decode cX1_fillWish 121 = .ok (.aaload, 1) := by decide +kernel
theorem dX1_fillWish_122 : decode cX1_fillWish 122 = .ok (.iconst 4, 1) := by decide +kernel
theorem dX1_fillWish_123 : decode cX1_fillWish 123 = .ok (.aload_n 1, 1) := by decide +kernel
theorem dX1_fillWish_124 : decode cX1_fillWish 124 = .ok (.getfield 94, 3) := by decide +kernel
theorem dX1_fillWish_127 : decode cX1_fillWish 127 = .ok (.iload_n 3, 1) := by decide +kernel
theorem dX1_fillWish_128 : decode cX1_fillWish 128 = .ok (.iaload, 1) := by decide +kernel
theorem dX1_fillWish_129 : decode cX1_fillWish 129 = .ok (.iload 4, 2) := by decide +kernel
theorem dX1_fillWish_131 : decode cX1_fillWish 131 = .ok (.isub, 1) := by decide +kernel
theorem dX1_fillWish_132 : decode cX1_fillWish 132 = .ok (.i2l, 1) := by decide +kernel
theorem dX1_fillWish_133 : decode cX1_fillWish 133 = .ok (.lastore, 1) := by decide +kernel
theorem dX1_fillWish_134 : decode cX1_fillWish 134 = .ok (.aload_n 0, 1) := by decide +kernel
theorem dX1_fillWish_135 : decode cX1_fillWish 135 = .ok (.getfield 13, 3) := by decide +kernel
theorem dX1_fillWish_138 : decode cX1_fillWish 138 = .ok (.iconst 1, 1) := by decide +kernel
theorem dX1_fillWish_139 : decode cX1_fillWish 139 = .ok (.aload_n 0, 1) := by decide +kernel
theorem dX1_fillWish_140 : decode cX1_fillWish 140 = .ok (.getfield 30, 3) := by decide +kernel
theorem dX1_fillWish_143 : decode cX1_fillWish 143 = .ok (.iadd, 1) := by decide +kernel
theorem dX1_fillWish_144 : decode cX1_fillWish 144 = .ok (.iload_n 2, 1) := by decide +kernel
theorem dX1_fillWish_145 : decode cX1_fillWish 145 = .ok (.iadd, 1) := by decide +kernel
theorem dX1_fillWish_146 : decode cX1_fillWish 146 = .ok (.aaload, 1) := by decide +kernel
theorem dX1_fillWish_147 : decode cX1_fillWish 147 = .ok (.iload_n 2, 1) := by decide +kernel
theorem dX1_fillWish_148 : decode cX1_fillWish 148 = .ok (.iload 5, 2) := by decide +kernel
theorem dX1_fillWish_150 : decode cX1_fillWish 150 = .ok (.ineg, 1) := by decide +kernel
theorem dX1_fillWish_151 : decode cX1_fillWish 151 = .ok (.i2l, 1) := by decide +kernel
theorem dX1_fillWish_152 : decode cX1_fillWish 152 = .ok (.lastore, 1) := by decide +kernel
theorem dX1_fillWish_153 : decode cX1_fillWish 153 = .ok (.return_, 1) := by decide +kernel
theorem dX1_fillGate_0 : decode cX1_fillGate 0 = .ok (.aload_n 0, 1) := by decide +kernel
theorem dX1_fillGate_1 : decode cX1_fillGate 1 = .ok (.getfield 34, 3) := by decide +kernel
theorem dX1_fillGate_4 : decode cX1_fillGate 4 = .ok (.bipush 14, 2) := by decide +kernel
theorem dX1_fillGate_6 : decode cX1_fillGate 6 = .ok (.if_icmp .lt 4, 3) := by decide +kernel
theorem dX1_fillGate_9 : decode cX1_fillGate 9 = .ok (.return_, 1) := by decide +kernel
theorem dX1_fillGate_10 : decode cX1_fillGate 10 = .ok (.aload_n 0, 1) := by decide +kernel
theorem dX1_fillGate_11 : decode cX1_fillGate 11 = .ok (.getfield 13, 3) := by decide +kernel
theorem dX1_fillGate_14 : decode cX1_fillGate 14 = .ok (.aload_n 0, 1) := by decide +kernel
theorem dX1_fillGate_15 : decode cX1_fillGate 15 = .ok (.getfield 34, 3) := by decide +kernel
theorem dX1_fillGate_18 : decode cX1_fillGate 18 = .ok (.aaload, 1) := by decide +kernel
theorem dX1_fillGate_19 : decode cX1_fillGate 19 = .ok (.astore_n 3, 1) := by decide +kernel
theorem dX1_fillGate_20 : decode cX1_fillGate 20 = .ok (.aload_n 0, 1) := by decide +kernel
theorem dX1_fillGate_21 : decode cX1_fillGate 21 = .ok (.dup, 1) := by decide +kernel
theorem dX1_fillGate_22 : decode cX1_fillGate 22 = .ok (.getfield 34, 3) := by decide +kernel
theorem dX1_fillGate_25 : decode cX1_fillGate 25 = .ok (.iconst 1, 1) := by decide +kernel
theorem dX1_fillGate_26 : decode cX1_fillGate 26 = .ok (.iadd, 1) := by decide +kernel
theorem dX1_fillGate_27 : decode cX1_fillGate 27 = .ok (.putfield 34, 3) := by decide +kernel
theorem dX1_fillGate_30 : decode cX1_fillGate 30 = .ok (.aload_n 1, 1) := by decide +kernel
theorem dX1_fillGate_31 : decode cX1_fillGate 31 = .ok (.getfield 131, 3) := by decide +kernel
theorem dX1_fillGate_34 : decode cX1_fillGate 34 = .ok (.iload_n 2, 1) := by decide +kernel
theorem dX1_fillGate_35 : decode cX1_fillGate 35 = .ok (.baload, 1) := by decide +kernel
theorem dX1_fillGate_36 : decode cX1_fillGate 36 = .ok (.ifCond .eq 7, 3) := by decide +kernel
theorem dX1_fillGate_39 : decode cX1_fillGate 39 = .ok (.iconst 1, 1) := by decide +kernel
theorem dX1_fillGate_40 : decode cX1_fillGate 40 = .ok (.goto 4, 3) := by decide +kernel
theorem dX1_fillGate_43 : decode cX1_fillGate 43 = .ok (.iconst (-1), 1) := by decide +kernel
theorem dX1_fillGate_44 : decode cX1_fillGate 44 = .ok (.istore 4, 2) := by decide +kernel
theorem dX1_fillGate_46 : decode cX1_fillGate 46 = .ok (.aload_n 1, 1) := by decide +kernel
theorem dX1_fillGate_47 : decode cX1_fillGate 47 = .ok (.getfield 134, 3) := by decide +kernel
theorem dX1_fillGate_50 : decode cX1_fillGate 50 = .ok (.iload_n 2, 1) := by decide +kernel
theorem dX1_fillGate_51 : decode cX1_fillGate 51 = .ok (.iaload, 1) := by decide +kernel
theorem dX1_fillGate_52 : decode cX1_fillGate 52 = .ok (.ineg, 1) := by decide +kernel
theorem dX1_fillGate_53 : decode cX1_fillGate 53 = .ok (.i2l, 1) := by decide +kernel
theorem dX1_fillGate_54 : decode cX1_fillGate 54 = .ok (.lstore 5, 2) := by decide +kernel
theorem dX1_fillGate_56 : decode cX1_fillGate 56 = .ok (.iconst 0, 1) := by decide +kernel
theorem dX1_fillGate_57 : decode cX1_fillGate 57 = .ok (.istore 7, 2) := by decide +kernel
theorem dX1_fillGate_59 : decode cX1_fillGate 59 = .ok (.iload 7, 2) := by decide +kernel
theorem dX1_fillGate_61 : decode cX1_fillGate 61 = .ok (.iconst 4, 1) := by decide +kernel
theorem dX1_fillGate_62 : decode cX1_fillGate 62 = .ok (.if_icmp .ge 42, 3) := by decide +kernel
theorem dX1_fillGate_65 : decode cX1_fillGate 65 = .ok (.aload_n 0, 1) := by decide +kernel
theorem dX1_fillGate_66 : decode cX1_fillGate 66 = .ok (.getfield 16, 3) := by decide +kernel
theorem dX1_fillGate_69 : decode cX1_fillGate 69 = .ok (.iload 7, 2) := by decide +kernel
theorem dX1_fillGate_71 : decode cX1_fillGate 71 = .ok (.iaload, 1) := by decide +kernel
theorem dX1_fillGate_72 : decode cX1_fillGate 72 = .ok (.ifCond .le 26, 3) := by decide +kernel
theorem dX1_fillGate_75 : decode cX1_fillGate 75 = .ok (.lload 5, 2) := by decide +kernel
theorem dX1_fillGate_77 : decode cX1_fillGate 77 = .ok (.aload_n 1, 1) := by decide +kernel
theorem dX1_fillGate_78 : decode cX1_fillGate 78 = .ok (.getfield 137, 3) := by decide +kernel
theorem dX1_fillGate_81 : decode cX1_fillGate 81 = .ok (.iload 7, 2) := by decide +kernel
theorem dX1_fillGate_83 : decode cX1_fillGate 83 = .ok (.aaload, 1) := by decide +kernel
theorem dX1_fillGate_84 : decode cX1_fillGate 84 = .ok (.iload_n 2, 1) := by decide +kernel
theorem dX1_fillGate_85 : decode cX1_fillGate 85 = .ok (.iaload, 1) := by decide +kernel
theorem dX1_fillGate_86 : decode cX1_fillGate 86 = .ok (.aload_n 0, 1) := by decide +kernel
theorem dX1_fillGate_87 : decode cX1_fillGate 87 = .ok (.getfield 16, 3) := by decide +kernel
theorem dX1_fillGate_90 : decode cX1_fillGate 90 = .ok (.iload 7, 2) := by decide +kernel
theorem dX1_fillGate_92 : decode cX1_fillGate 92 = .ok (.iaload, 1) := by decide +kernel
theorem dX1_fillGate_93 : decode cX1_fillGate 93 = .ok (.imul, 1) := by decide +kernel
theorem dX1_fillGate_94 : decode cX1_fillGate 94 = .ok (.i2l, 1) := by decide +kernel
theorem dX1_fillGate_95 : decode cX1_fillGate 95 = .ok (.ladd, 1) := by decide +kernel
theorem dX1_fillGate_96 : decode cX1_fillGate 96 = .ok (.lstore 5, 2) := by decide +kernel
theorem dX1_fillGate_98 : decode cX1_fillGate 98 = .ok (.iinc 7 1, 3) := by decide +kernel
theorem dX1_fillGate_101 : decode cX1_fillGate 101 = .ok (.goto (-42), 3) := by decide +kernel
theorem dX1_fillGate_104 : decode cX1_fillGate 104 = .ok (.iconst 0, 1) := by decide +kernel
theorem dX1_fillGate_105 : decode cX1_fillGate 105 = .ok (.istore 7, 2) := by decide +kernel
theorem dX1_fillGate_107 : decode cX1_fillGate 107 = .ok (.iload 7, 2) := by decide +kernel
theorem dX1_fillGate_109 : decode cX1_fillGate 109 = .ok (.aload_n 0, 1) := by decide +kernel
theorem dX1_fillGate_110 : decode cX1_fillGate 110 = .ok (.getfield 30, 3) := by decide +kernel
theorem dX1_fillGate_113 : decode cX1_fillGate 113 = .ok (.if_icmp .ge 68, 3) := by decide +kernel
theorem dX1_fillGate_116 : decode cX1_fillGate 116 = .ok (.aload_n 1, 1) := by decide +kernel
theorem dX1_fillGate_117 : decode cX1_fillGate 117 = .ok (.getfield 137, 3) := by decide +kernel
theorem dX1_fillGate_120 : decode cX1_fillGate 120 = .ok (.aload_n 0, 1) := by decide +kernel
theorem dX1_fillGate_121 : decode cX1_fillGate 121 = .ok (.getfield 20, 3) := by decide +kernel
theorem dX1_fillGate_124 : decode cX1_fillGate 124 = .ok (.iload 7, 2) := by decide +kernel
theorem dX1_fillGate_126 : decode cX1_fillGate 126 = .ok (.iaload, 1) := by decide +kernel
theorem dX1_fillGate_127 : decode cX1_fillGate 127 = .ok (.aaload, 1) := by decide +kernel
theorem dX1_fillGate_128 : decode cX1_fillGate 128 = .ok (.iload_n 2, 1) := by decide +kernel
theorem dX1_fillGate_129 : decode cX1_fillGate 129 = .ok (.iaload, 1) := by decide +kernel
theorem dX1_fillGate_130 : decode cX1_fillGate 130 = .ok (.istore 8, 2) := by decide +kernel
theorem dX1_fillGate_132 : decode cX1_fillGate 132 = .ok (.lload 5, 2) := by decide +kernel
theorem dX1_fillGate_134 : decode cX1_fillGate 134 = .ok (.iload 8, 2) := by decide +kernel
theorem dX1_fillGate_136 : decode cX1_fillGate 136 = .ok (.i2l, 1) := by decide +kernel
theorem dX1_fillGate_137 : decode cX1_fillGate 137 = .ok (.aload_n 0, 1) := by decide +kernel
theorem dX1_fillGate_138 : decode cX1_fillGate 138 = .ok (.getfield 13, 3) := by decide +kernel
theorem dX1_fillGate_141 : decode cX1_fillGate 141 = .ok (.iconst 1, 1) := by decide +kernel
theorem dX1_fillGate_142 : decode cX1_fillGate 142 = .ok (.iload 7, 2) := by decide +kernel
theorem dX1_fillGate_144 : decode cX1_fillGate 144 = .ok (.iadd, 1) := by decide +kernel
theorem dX1_fillGate_145 : decode cX1_fillGate 145 = .ok (.aaload, 1) := by decide +kernel
theorem dX1_fillGate_146 : decode cX1_fillGate 146 = .ok (.iconst 4, 1) := by decide +kernel
theorem dX1_fillGate_147 : decode cX1_fillGate 147 = .ok (.laload, 1) := by decide +kernel
theorem dX1_fillGate_148 : decode cX1_fillGate 148 = .ok (.lmul, 1) := by decide +kernel
theorem dX1_fillGate_149 : decode cX1_fillGate 149 = .ok (.ladd, 1) := by decide +kernel
theorem dX1_fillGate_150 : decode cX1_fillGate 150 = .ok (.lstore 5, 2) := by decide +kernel
theorem dX1_fillGate_152 : decode cX1_fillGate 152 = .ok (.aload_n 3, 1) := by decide +kernel
theorem dX1_fillGate_153 : decode cX1_fillGate 153 = .ok (.iload 7, 2) := by decide +kernel
theorem dX1_fillGate_155 : decode cX1_fillGate 155 = .ok (.iload 4, 2) := by decide +kernel
theorem dX1_fillGate_157 : decode cX1_fillGate 157 = .ok (.iload 8, 2) := by decide +kernel
theorem dX1_fillGate_159 : decode cX1_fillGate 159 = .ok (.imul, 1) := by decide +kernel
theorem dX1_fillGate_160 : decode cX1_fillGate 160 = .ok (.i2l, 1) := by decide +kernel
theorem dX1_fillGate_161 : decode cX1_fillGate 161 = .ok (.aload_n 0, 1) := by decide +kernel
theorem dX1_fillGate_162 : decode cX1_fillGate 162 = .ok (.getfield 13, 3) := by decide +kernel
theorem dX1_fillGate_165 : decode cX1_fillGate 165 = .ok (.iconst 1, 1) := by decide +kernel
theorem dX1_fillGate_166 : decode cX1_fillGate 166 = .ok (.iload 7, 2) := by decide +kernel
theorem dX1_fillGate_168 : decode cX1_fillGate 168 = .ok (.iadd, 1) := by decide +kernel
theorem dX1_fillGate_169 : decode cX1_fillGate 169 = .ok (.aaload, 1) := by decide +kernel
theorem dX1_fillGate_170 : decode cX1_fillGate 170 = .ok (.iload 7, 2) := by decide +kernel
theorem dX1_fillGate_172 : decode cX1_fillGate 172 = .ok (.laload, 1) := by decide +kernel
theorem dX1_fillGate_173 : decode cX1_fillGate 173 = .ok (.lmul, 1) := by decide +kernel
theorem dX1_fillGate_174 : decode cX1_fillGate 174 = .ok (.lastore, 1) := by decide +kernel
theorem dX1_fillGate_175 : decode cX1_fillGate 175 = .ok (.iinc 7 1, 3) := by decide +kernel
theorem dX1_fillGate_178 : decode cX1_fillGate 178 = .ok (.goto (-71), 3) := by decide +kernel
theorem dX1_fillGate_181 : decode cX1_fillGate 181 = .ok (.aload_n 3, 1) := by decide +kernel
theorem dX1_fillGate_182 : decode cX1_fillGate 182 = .ok (.iconst 4, 1) := by decide +kernel
theorem dX1_fillGate_183 : decode cX1_fillGate 183 = .ok (.iload 4, 2) := by decide +kernel
theorem dX1_fillGate_185 : decode cX1_fillGate 185 = .ok (.i2l, 1) := by decide +kernel
theorem dX1_fillGate_186 : decode cX1_fillGate 186 = .ok (.lload 5, 2) := by decide +kernel
theorem dX1_fillGate_188 : decode cX1_fillGate 188 = .ok (.lmul, 1) := by decide +kernel
theorem dX1_fillGate_189 : decode cX1_fillGate 189 = .ok (.lastore, 1) := by decide +kernel
theorem dX1_fillGate_190 : decode cX1_fillGate 190 = .ok (.return_, 1) := by decide +kernel
theorem dX1_lowestRow_0 : decode cX1_lowestRow 0 = .ok (.iconst (-1), 1) := by decide +kernel
theorem dX1_lowestRow_1 : decode cX1_lowestRow 1 = .ok (.istore_n 1, 1) := by decide +kernel
theorem dX1_lowestRow_2 : decode cX1_lowestRow 2 = .ok (.lconst 0, 1) := by decide +kernel
theorem dX1_lowestRow_3 : decode cX1_lowestRow 3 = .ok (.lstore_n 2, 1) := by decide +kernel
theorem dX1_lowestRow_4 : decode cX1_lowestRow 4 = .ok (.iconst 1, 1) := by decide +kernel
theorem dX1_lowestRow_5 : decode cX1_lowestRow 5 = .ok (.istore 4, 2) := by decide +kernel
theorem dX1_lowestRow_7 : decode cX1_lowestRow 7 = .ok (.iload 4, 2) := by decide +kernel
theorem dX1_lowestRow_9 : decode cX1_lowestRow 9 = .ok (.aload_n 0, 1) := by decide +kernel
theorem dX1_lowestRow_10 : decode cX1_lowestRow 10 = .ok (.getfield 34, 3) := by decide +kernel
theorem dX1_lowestRow_13 : decode cX1_lowestRow 13 = .ok (.if_icmp .ge 39, 3) := by decide +kernel
theorem dX1_lowestRow_16 : decode cX1_lowestRow 16 = .ok (.aload_n 0, 1) := by decide +kernel
theorem dX1_lowestRow_17 : decode cX1_lowestRow 17 = .ok (.getfield 13, 3) := by decide +kernel
theorem dX1_lowestRow_20 : decode cX1_lowestRow 20 = .ok (.iload 4, 2) := by decide +kernel
theorem dX1_lowestRow_22 : decode cX1_lowestRow 22 = .ok (.aaload, 1) := by decide +kernel
theorem dX1_lowestRow_23 : decode cX1_lowestRow 23 = .ok (.iconst 4, 1) := by decide +kernel
theorem dX1_lowestRow_24 : decode cX1_lowestRow 24 = .ok (.laload, 1) := by decide +kernel
theorem dX1_lowestRow_25 : decode cX1_lowestRow 25 = .ok (.lload_n 2, 1) := by decide +kernel
theorem dX1_lowestRow_26 : decode cX1_lowestRow 26 = .ok (.lcmp, 1) := by decide +kernel
theorem dX1_lowestRow_27 : decode cX1_lowestRow 27 = .ok (.ifCond .lt 6, 3) := by decide +kernel
theorem dX1_lowestRow_30 : decode cX1_lowestRow 30 = .ok (.goto 16, 3) := by decide +kernel
theorem dX1_lowestRow_33 : decode cX1_lowestRow 33 = .ok (.aload_n 0, 1) := by decide +kernel
theorem dX1_lowestRow_34 : decode cX1_lowestRow 34 = .ok (.getfield 13, 3) := by decide +kernel
theorem dX1_lowestRow_37 : decode cX1_lowestRow 37 = .ok (.iload 4, 2) := by decide +kernel
theorem dX1_lowestRow_39 : decode cX1_lowestRow 39 = .ok (.aaload, 1) := by decide +kernel
theorem dX1_lowestRow_40 : decode cX1_lowestRow 40 = .ok (.iconst 4, 1) := by decide +kernel
theorem dX1_lowestRow_41 : decode cX1_lowestRow 41 = .ok (.laload, 1) := by decide +kernel
theorem dX1_lowestRow_42 : decode cX1_lowestRow 42 = .ok (.lstore_n 2, 1) := by decide +kernel
theorem dX1_lowestRow_43 : decode cX1_lowestRow 43 = .ok (.iload 4, 2) := by decide +kernel
theorem dX1_lowestRow_45 : decode cX1_lowestRow 45 = .ok (.istore_n 1, 1) := by decide +kernel
theorem dX1_lowestRow_46 : decode cX1_lowestRow 46 = .ok (.iinc 4 1, 3) := by decide +kernel
theorem dX1_lowestRow_49 : decode cX1_lowestRow 49 = .ok (.goto (-42), 3) := by decide +kernel
theorem dX1_lowestRow_52 : decode cX1_lowestRow 52 = .ok (.iload_n 1, 1) := by decide +kernel
theorem dX1_lowestRow_53 : decode cX1_lowestRow 53 = .ok (.ireturn, 1) := by decide +kernel
theorem dX1_cheapestColumn_0 : decode cX1_cheapestColumn 0 = .ok (.iconst (-1), 1) := by decide +kernel
theorem dX1_cheapestColumn_1 : decode cX1_cheapestColumn 1 = .ok (.istore_n 2, 1) := by decide +kernel
theorem dX1_cheapestColumn_2 : decode cX1_cheapestColumn 2 = .ok (.iconst 0, 1) := by decide +kernel
theorem dX1_cheapestColumn_3 : decode cX1_cheapestColumn 3 = .ok (.istore_n 3, 1) := by decide +kernel
theorem dX1_cheapestColumn_4 : decode cX1_cheapestColumn 4 = .ok (.iload_n 3, 1) := by decide +kernel
theorem dX1_cheapestColumn_5 : decode cX1_cheapestColumn 5 = .ok (.aload_n 0, 1) := by decide +kernel
theorem dX1_cheapestColumn_6 : decode cX1_cheapestColumn 6 = .ok (.getfield 30, 3) := by decide +kernel
theorem dX1_cheapestColumn_9 : decode cX1_cheapestColumn 9 = .ok (.if_icmp .ge 41, 3) := by decide +kernel
theorem dX1_cheapestColumn_12 : decode cX1_cheapestColumn 12 = .ok (.aload_n 0, 1) := by decide +kernel
theorem dX1_cheapestColumn_13 : decode cX1_cheapestColumn 13 = .ok (.getfield 13, 3) := by decide +kernel
theorem dX1_cheapestColumn_16 : decode cX1_cheapestColumn 16 = .ok (.iload_n 1, 1) := by decide +kernel
theorem dX1_cheapestColumn_17 : decode cX1_cheapestColumn 17 = .ok (.aaload, 1) := by decide +kernel
theorem dX1_cheapestColumn_18 : decode cX1_cheapestColumn 18 = .ok (.iload_n 3, 1) := by decide +kernel
theorem dX1_cheapestColumn_19 : decode cX1_cheapestColumn 19 = .ok (.laload, 1) := by decide +kernel
theorem dX1_cheapestColumn_20 : decode cX1_cheapestColumn 20 = .ok (.lconst 0, 1) := by decide +kernel
theorem dX1_cheapestColumn_21 : decode cX1_cheapestColumn 21 = .ok (.lcmp, 1) := by decide +kernel
theorem dX1_cheapestColumn_22 : decode cX1_cheapestColumn 22 = .ok (.ifCond .gt 6, 3) := by decide +kernel
theorem dX1_cheapestColumn_25 : decode cX1_cheapestColumn 25 = .ok (.goto 19, 3) := by decide +kernel
theorem dX1_cheapestColumn_28 : decode cX1_cheapestColumn 28 = .ok (.iload_n 2, 1) := by decide +kernel
theorem dX1_cheapestColumn_29 : decode cX1_cheapestColumn 29 = .ok (.ifCond .lt 13, 3) := by decide +kernel
theorem dX1_cheapestColumn_32 : decode cX1_cheapestColumn 32 = .ok (.aload_n 0, 1) := by decide +kernel
theorem dX1_cheapestColumn_33 : decode cX1_cheapestColumn 33 = .ok (.iload_n 1, 1) := by decide +kernel
theorem dX1_cheapestColumn_34 : decode cX1_cheapestColumn 34 = .ok (.iload_n 3, 1) := by decide +kernel
theorem dX1_cheapestColumn_35 : decode cX1_cheapestColumn 35 = .ok (.iload_n 2, 1) := by decide +kernel
theorem dX1_cheapestColumn_36 : decode cX1_cheapestColumn 36 = .ok (.invokevirtual 141, 3) := by decide +kernel
theorem dX1_cheapestColumn_39 : decode cX1_cheapestColumn 39 = .ok (.ifCond .eq 5, 3) := by decide +kernel
theorem dX1_cheapestColumn_42 : decode cX1_cheapestColumn 42 = .ok (.iload_n 3, 1) := by decide +kernel
theorem dX1_cheapestColumn_43 : decode cX1_cheapestColumn 43 = .ok (.istore_n 2, 1) := by decide +kernel
theorem dX1_cheapestColumn_44 : decode cX1_cheapestColumn 44 = .ok (.iinc 3 1, 3) := by decide +kernel
theorem dX1_cheapestColumn_47 : decode cX1_cheapestColumn 47 = .ok (.goto (-43), 3) := by decide +kernel
theorem dX1_cheapestColumn_50 : decode cX1_cheapestColumn 50 = .ok (.iload_n 2, 1) := by decide +kernel
theorem dX1_cheapestColumn_51 : decode cX1_cheapestColumn 51 = .ok (.ireturn, 1) := by decide +kernel
theorem dX1_isCheaper_0 : decode cX1_isCheaper 0 = .ok (.aload_n 0, 1) := by decide +kernel
theorem dX1_isCheaper_1 : decode cX1_isCheaper 1 = .ok (.getfield 13, 3) := by decide +kernel
theorem dX1_isCheaper_4 : decode cX1_isCheaper 4 = .ok (.iload_n 1, 1) := by decide +kernel
theorem dX1_isCheaper_5 : decode cX1_isCheaper 5 = .ok (.aaload, 1) := by decide +kernel
theorem dX1_isCheaper_6 : decode cX1_isCheaper 6 = .ok (.iload_n 2, 1) := by decide +kernel
theorem dX1_isCheaper_7 : decode cX1_isCheaper 7 = .ok (.laload, 1) := by decide +kernel
theorem dX1_isCheaper_8 : decode cX1_isCheaper 8 = .ok (.lstore 4, 2) := by decide +kernel
theorem dX1_isCheaper_10 : decode cX1_isCheaper 10 = .ok (.aload_n 0, 1) := by decide +kernel
theorem dX1_isCheaper_11 : decode cX1_isCheaper 11 = .ok (.getfield 13, 3) := by decide +kernel
theorem dX1_isCheaper_14 : decode cX1_isCheaper 14 = .ok (.iload_n 1, 1) := by decide +kernel
theorem dX1_isCheaper_15 : decode cX1_isCheaper 15 = .ok (.aaload, 1) := by decide +kernel
theorem dX1_isCheaper_16 : decode cX1_isCheaper 16 = .ok (.iload_n 3, 1) := by decide +kernel
theorem dX1_isCheaper_17 : decode cX1_isCheaper 17 = .ok (.laload, 1) := by decide +kernel
theorem dX1_isCheaper_18 : decode cX1_isCheaper 18 = .ok (.lstore 6, 2) := by decide +kernel
theorem dX1_isCheaper_20 : decode cX1_isCheaper 20 = .ok (.aload_n 0, 1) := by decide +kernel
theorem dX1_isCheaper_21 : decode cX1_isCheaper 21 = .ok (.getfield 13, 3) := by decide +kernel
theorem dX1_isCheaper_24 : decode cX1_isCheaper 24 = .ok (.iconst 0, 1) := by decide +kernel
theorem dX1_isCheaper_25 : decode cX1_isCheaper 25 = .ok (.aaload, 1) := by decide +kernel
theorem dX1_isCheaper_26 : decode cX1_isCheaper 26 = .ok (.iload_n 2, 1) := by decide +kernel
theorem dX1_isCheaper_27 : decode cX1_isCheaper 27 = .ok (.laload, 1) := by decide +kernel
theorem dX1_isCheaper_28 : decode cX1_isCheaper 28 = .ok (.lload 6, 2) := by decide +kernel
theorem dX1_isCheaper_30 : decode cX1_isCheaper 30 = .ok (.lmul, 1) := by decide +kernel
theorem dX1_isCheaper_31 : decode cX1_isCheaper 31 = .ok (.aload_n 0, 1) := by decide +kernel
theorem dX1_isCheaper_32 : decode cX1_isCheaper 32 = .ok (.getfield 13, 3) := by decide +kernel
theorem dX1_isCheaper_35 : decode cX1_isCheaper 35 = .ok (.iconst 0, 1) := by decide +kernel
theorem dX1_isCheaper_36 : decode cX1_isCheaper 36 = .ok (.aaload, 1) := by decide +kernel
theorem dX1_isCheaper_37 : decode cX1_isCheaper 37 = .ok (.iload_n 3, 1) := by decide +kernel
theorem dX1_isCheaper_38 : decode cX1_isCheaper 38 = .ok (.laload, 1) := by decide +kernel
theorem dX1_isCheaper_39 : decode cX1_isCheaper 39 = .ok (.lload 4, 2) := by decide +kernel
theorem dX1_isCheaper_41 : decode cX1_isCheaper 41 = .ok (.lmul, 1) := by decide +kernel
theorem dX1_isCheaper_42 : decode cX1_isCheaper 42 = .ok (.invokestatic 145, 3) := by decide +kernel
theorem dX1_isCheaper_45 : decode cX1_isCheaper 45 = .ok (.istore 8, 2) := by decide +kernel
theorem dX1_isCheaper_47 : decode cX1_isCheaper 47 = .ok (.iconst 1, 1) := by decide +kernel
theorem dX1_isCheaper_48 : decode cX1_isCheaper 48 = .ok (.istore 9, 2) := by decide +kernel
theorem dX1_isCheaper_50 : decode cX1_isCheaper 50 = .ok (.iload 9, 2) := by decide +kernel
theorem dX1_isCheaper_52 : decode cX1_isCheaper 52 = .ok (.aload_n 0, 1) := by decide +kernel
theorem dX1_isCheaper_53 : decode cX1_isCheaper 53 = .ok (.getfield 30, 3) := by decide +kernel
theorem dX1_isCheaper_56 : decode cX1_isCheaper 56 = .ok (.if_icmp .gt 43, 3) := by decide +kernel
theorem dX1_isCheaper_59 : decode cX1_isCheaper 59 = .ok (.iload 8, 2) := by decide +kernel
theorem dX1_isCheaper_61 : decode cX1_isCheaper 61 = .ok (.ifCond .ne 38, 3) := by decide +kernel
theorem dX1_isCheaper_64 : decode cX1_isCheaper 64 = .ok (.aload_n 0, 1) := by decide +kernel
theorem dX1_isCheaper_65 : decode cX1_isCheaper 65 = .ok (.getfield 13, 3) := by decide +kernel
theorem dX1_isCheaper_68 : decode cX1_isCheaper 68 = .ok (.iload 9, 2) := by decide +kernel
theorem dX1_isCheaper_70 : decode cX1_isCheaper 70 = .ok (.aaload, 1) := by decide +kernel
theorem dX1_isCheaper_71 : decode cX1_isCheaper 71 = .ok (.iload_n 3, 1) := by decide +kernel
theorem dX1_isCheaper_72 : decode cX1_isCheaper 72 = .ok (.laload, 1) := by decide +kernel
theorem dX1_isCheaper_73 : decode cX1_isCheaper 73 = .ok (.lload 4, 2) := by decide +kernel
theorem dX1_isCheaper_75 : decode cX1_isCheaper 75 = .ok (.lmul, 1) := by decide +kernel
theorem dX1_isCheaper_76 : decode cX1_isCheaper 76 = .ok (.aload_n 0, 1) := by decide +kernel
theorem dX1_isCheaper_77 : decode cX1_isCheaper 77 = .ok (.getfield 13, 3) := by decide +kernel
theorem dX1_isCheaper_80 : decode cX1_isCheaper 80 = .ok (.iload 9, 2) := by decide +kernel
theorem dX1_isCheaper_82 : decode cX1_isCheaper 82 = .ok (.aaload, 1) := by decide +kernel
theorem dX1_isCheaper_83 : decode cX1_isCheaper 83 = .ok (.iload_n 2, 1) := by decide +kernel
theorem dX1_isCheaper_84 : decode cX1_isCheaper 84 = .ok (.laload, 1) := by decide +kernel
theorem dX1_isCheaper_85 : decode cX1_isCheaper 85 = .ok (.lload 6, 2) := by decide +kernel
theorem dX1_isCheaper_87 : decode cX1_isCheaper 87 = .ok (.lmul, 1) := by decide +kernel
theorem dX1_isCheaper_88 : decode cX1_isCheaper 88 = .ok (.invokestatic 145, 3) := by decide +kernel
theorem dX1_isCheaper_91 : decode cX1_isCheaper 91 = .ok (.istore 8, 2) := by decide +kernel
theorem dX1_isCheaper_93 : decode cX1_isCheaper 93 = .ok (.iinc 9 1, 3) := by decide +kernel
theorem dX1_isCheaper_96 : decode cX1_isCheaper 96 = .ok (.goto (-46), 3) := by decide +kernel
theorem dX1_isCheaper_99 : decode cX1_isCheaper 99 = .ok (.iload 8, 2) := by decide +kernel
theorem dX1_isCheaper_101 : decode cX1_isCheaper 101 = .ok (.ifCond .le 7, 3) := by decide +kernel
theorem dX1_isCheaper_104 : decode cX1_isCheaper 104 = .ok (.iconst 1, 1) := by decide +kernel
theorem dX1_isCheaper_105 : decode cX1_isCheaper 105 = .ok (.goto 4, 3) := by decide +kernel
theorem dX1_isCheaper_108 : decode cX1_isCheaper 108 = .ok (.iconst 0, 1) := by decide +kernel
theorem dX1_isCheaper_109 : decode cX1_isCheaper 109 = .ok (.ireturn, 1) := by decide +kernel
theorem dX1_turn_0 : decode cX1_turn 0 = .ok (.aload_n 0, 1) := by decide +kernel
theorem dX1_turn_1 : decode cX1_turn 1 = .ok (.getfield 13, 3) := by decide +kernel
theorem dX1_turn_4 : decode cX1_turn 4 = .ok (.iload_n 1, 1) := by decide +kernel
theorem dX1_turn_5 : decode cX1_turn 5 = .ok (.aaload, 1) := by decide +kernel
theorem dX1_turn_6 : decode cX1_turn 6 = .ok (.astore_n 3, 1) := by decide +kernel
theorem dX1_turn_7 : decode cX1_turn 7 = .ok (.aload_n 3, 1) := by decide +kernel
theorem dX1_turn_8 : decode cX1_turn 8 = .ok (.iload_n 2, 1) := by decide +kernel
theorem dX1_turn_9 : decode cX1_turn 9 = .ok (.laload, 1) := by decide +kernel
theorem dX1_turn_10 : decode cX1_turn 10 = .ok (.lstore 4, 2) := by decide +kernel
theorem dX1_turn_12 : decode cX1_turn 12 = .ok (.aload_n 0, 1) := by decide +kernel
theorem dX1_turn_13 : decode cX1_turn 13 = .ok (.getfield 37, 3) := by decide +kernel
theorem dX1_turn_16 : decode cX1_turn 16 = .ok (.lconst 0, 1) := by decide +kernel
theorem dX1_turn_17 : decode cX1_turn 17 = .ok (.lcmp, 1) := by decide +kernel
theorem dX1_turn_18 : decode cX1_turn 18 = .ok (.ifCond .le 10, 3) := by decide +kernel
theorem dX1_turn_21 : decode cX1_turn 21 = .ok (.lload 4, 2) := by decide +kernel
theorem dX1_turn_23 : decode cX1_turn 23 = .ok (.lconst 0, 1) := by decide +kernel
theorem dX1_turn_24 : decode cX1_turn 24 = .ok (.lcmp, 1) := by decide +kernel
theorem dX1_turn_25 : decode cX1_turn 25 = .ok (.ifCond .gt 4, 3) := by decide +kernel
theorem dX1_turn_28 : decode cX1_turn 28 = .ok (.return_, 1) := by decide +kernel
theorem dX1_turn_29 : decode cX1_turn 29 = .ok (.iconst 0, 1) := by decide +kernel
theorem dX1_turn_30 : decode cX1_turn 30 = .ok (.istore 6, 2) := by decide +kernel
theorem dX1_turn_32 : decode cX1_turn 32 = .ok (.iload 6, 2) := by decide +kernel
theorem dX1_turn_34 : decode cX1_turn 34 = .ok (.aload_n 0, 1) := by decide +kernel
theorem dX1_turn_35 : decode cX1_turn 35 = .ok (.getfield 34, 3) := by decide +kernel
theorem dX1_turn_38 : decode cX1_turn 38 = .ok (.if_icmp .ge 106, 3) := by decide +kernel
theorem dX1_turn_41 : decode cX1_turn 41 = .ok (.iload 6, 2) := by decide +kernel
theorem dX1_turn_43 : decode cX1_turn 43 = .ok (.iload_n 1, 1) := by decide +kernel
theorem dX1_turn_44 : decode cX1_turn 44 = .ok (.if_icmp .ne 6, 3) := by decide +kernel
theorem dX1_turn_47 : decode cX1_turn 47 = .ok (.goto 91, 3) := by decide +kernel
theorem dX1_turn_50 : decode cX1_turn 50 = .ok (.aload_n 0, 1) := by decide +kernel
theorem dX1_turn_51 : decode cX1_turn 51 = .ok (.getfield 13, 3) := by decide +kernel
theorem dX1_turn_54 : decode cX1_turn 54 = .ok (.iload 6, 2) := by decide +kernel
theorem dX1_turn_56 : decode cX1_turn 56 = .ok (.aaload, 1) := by decide +kernel
theorem dX1_turn_57 : decode cX1_turn 57 = .ok (.astore 7, 2) := by decide +kernel
theorem dX1_turn_59 : decode cX1_turn 59 = .ok (.aload 7, 2) := by decide +kernel
theorem dX1_turn_61 : decode cX1_turn 61 = .ok (.iload_n 2, 1) := by decide +kernel
theorem dX1_turn_62 : decode cX1_turn 62 = .ok (.laload, 1) := by decide +kernel
theorem dX1_turn_63 : decode cX1_turn 63 = .ok (.lstore 8, 2) := by decide +kernel
theorem dX1_turn_65 : decode cX1_turn 65 = .ok (.iconst 0, 1) := by decide +kernel
theorem dX1_turn_66 : decode cX1_turn 66 = .ok (.istore 10, 2) := by decide +kernel
theorem dX1_turn_68 : decode cX1_turn 68 = .ok (.iload 10, 2) := by decide +kernel
theorem dX1_turn_70 : decode cX1_turn 70 = .ok (.aload_n 0, 1) := by decide +kernel
theorem dX1_turn_71 : decode cX1_turn 71 = .ok (.getfield 30, 3) := by decide +kernel
theorem dX1_turn_74 : decode cX1_turn 74 = .ok (.if_icmp .ge 41, 3) := by decide +kernel
theorem dX1_turn_77 : decode cX1_turn 77 = .ok (.iload 10, 2) := by decide +kernel
theorem dX1_turn_79 : decode cX1_turn 79 = .ok (.iload_n 2, 1) := by decide +kernel
theorem dX1_turn_80 : decode cX1_turn 80 = .ok (.if_icmp .eq 29, 3) := by decide +kernel
theorem dX1_turn_83 : decode cX1_turn 83 = .ok (.aload 7, 2) := by decide +kernel
theorem dX1_turn_85 : decode cX1_turn 85 = .ok (.iload 10, 2) := by decide +kernel
theorem dX1_turn_87 : decode cX1_turn 87 = .ok (.lload 4, 2) := by decide +kernel
theorem dX1_turn_89 : decode cX1_turn 89 = .ok (.aload 7, 2) := by decide +kernel
theorem dX1_turn_91 : decode cX1_turn 91 = .ok (.iload 10, 2) := by decide +kernel
theorem dX1_turn_93 : decode cX1_turn 93 = .ok (.laload, 1) := by decide +kernel
theorem dX1_turn_94 : decode cX1_turn 94 = .ok (.lmul, 1) := by decide +kernel
theorem dX1_turn_95 : decode cX1_turn 95 = .ok (.lload 8, 2) := by decide +kernel
theorem dX1_turn_97 : decode cX1_turn 97 = .ok (.aload_n 3, 1) := by decide +kernel
theorem dX1_turn_98 : decode cX1_turn 98 = .ok (.iload 10, 2) := by decide +kernel
theorem dX1_turn_100 : decode cX1_turn 100 = .ok (.laload, 1) := by decide +kernel
theorem dX1_turn_101 : decode cX1_turn 101 = .ok (.lmul, 1) := by decide +kernel
theorem dX1_turn_102 : decode cX1_turn 102 = .ok (.lsub, 1) := by decide +kernel
theorem dX1_turn_103 : decode cX1_turn 103 = .ok (.aload_n 0, 1) := by decide +kernel
theorem dX1_turn_104 : decode cX1_turn 104 = .ok (.getfield 37, 3) := by decide +kernel
theorem dX1_turn_107 : decode cX1_turn 107 = .ok (.ldiv, 1) := by decide +kernel
theorem dX1_turn_108 : decode cX1_turn 108 = .ok (.lastore, 1) := by decide +kernel
theorem dX1_turn_109 : decode cX1_turn 109 = .ok (.iinc 10 1, 3) := by decide +kernel
theorem dX1_turn_112 : decode cX1_turn 112 = .ok (.goto (-44), 3) := by decide +kernel
theorem dX1_turn_115 : decode cX1_turn 115 = .ok (.aload 7, 2) := by decide +kernel
theorem dX1_turn_117 : decode cX1_turn 117 = .ok (.iconst 4, 1) := by decide +kernel
theorem dX1_turn_118 : decode cX1_turn 118 = .ok (.lload 4, 2) := by decide +kernel
theorem dX1_turn_120 : decode cX1_turn 120 = .ok (.aload 7, 2) := by decide +kernel
theorem dX1_turn_122 : decode cX1_turn 122 = .ok (.iconst 4, 1) := by decide +kernel
theorem dX1_turn_123 : decode cX1_turn 123 = .ok (.laload, 1) := by decide +kernel
theorem dX1_turn_124 : decode cX1_turn 124 = .ok (.lmul, 1) := by decide +kernel
theorem dX1_turn_125 : decode cX1_turn 125 = .ok (.lload 8, 2) := by decide +kernel
theorem dX1_turn_127 : decode cX1_turn 127 = .ok (.aload_n 3, 1) := by decide +kernel
theorem dX1_turn_128 : decode cX1_turn 128 = .ok (.iconst 4, 1) := by decide +kernel
theorem dX1_turn_129 : decode cX1_turn 129 = .ok (.laload, 1) := by decide +kernel
theorem dX1_turn_130 : decode cX1_turn 130 = .ok (.lmul, 1) := by decide +kernel
theorem dX1_turn_131 : decode cX1_turn 131 = .ok (.lsub, 1) := by decide +kernel
theorem dX1_turn_132 : decode cX1_turn 132 = .ok (.aload_n 0, 1) := by decide +kernel
theorem dX1_turn_133 : decode cX1_turn 133 = .ok (.getfield 37, 3) := by decide +kernel
theorem dX1_turn_136 : decode cX1_turn 136 = .ok (.ldiv, 1) := by decide +kernel
theorem dX1_turn_137 : decode cX1_turn 137 = .ok (.lastore, 1) := by decide +kernel
theorem dX1_turn_138 : decode cX1_turn 138 = .ok (.iinc 6 1, 3) := by decide +kernel
theorem dX1_turn_141 : decode cX1_turn 141 = .ok (.goto (-109), 3) := by decide +kernel
theorem dX1_turn_144 : decode cX1_turn 144 = .ok (.aload_n 3, 1) := by decide +kernel
theorem dX1_turn_145 : decode cX1_turn 145 = .ok (.lconst 0, 1) := by decide +kernel
theorem dX1_turn_146 : decode cX1_turn 146 = .ok (.invokestatic 115, 3) := by decide +kernel
theorem dX1_turn_149 : decode cX1_turn 149 = .ok (.aload_n 3, 1) := by decide +kernel
theorem dX1_turn_150 : decode cX1_turn 150 = .ok (.iload_n 2, 1) := by decide +kernel
theorem dX1_turn_151 : decode cX1_turn 151 = .ok (.lload 4, 2) := by decide +kernel
theorem dX1_turn_153 : decode cX1_turn 153 = .ok (.lastore, 1) := by decide +kernel
theorem dX1_turn_154 : decode cX1_turn 154 = .ok (.aload_n 0, 1) := by decide +kernel
theorem dX1_turn_155 : decode cX1_turn 155 = .ok (.lload 4, 2) := by decide +kernel
theorem dX1_turn_157 : decode cX1_turn 157 = .ok (.putfield 37, 3) := by decide +kernel
theorem dX1_turn_160 : decode cX1_turn 160 = .ok (.return_, 1) := by decide +kernel
theorem dX1_takeParts_0 : decode cX1_takeParts 0 = .ok (.iconst 0, 1) := by decide +kernel
theorem dX1_takeParts_1 : decode cX1_takeParts 1 = .ok (.istore_n 1, 1) := by decide +kernel
theorem dX1_takeParts_2 : decode cX1_takeParts 2 = .ok (.iload_n 1, 1) := by decide +kernel
theorem dX1_takeParts_3 : decode cX1_takeParts 3 = .ok (.iconst 4, 1) := by decide +kernel
theorem dX1_takeParts_4 : decode cX1_takeParts 4 = .ok (.if_icmp .ge 34, 3) := by decide +kernel
theorem dX1_takeParts_7 : decode cX1_takeParts 7 = .ok (.aload_n 0, 1) := by decide +kernel
theorem dX1_takeParts_8 : decode cX1_takeParts 8 = .ok (.getfield 26, 3) := by decide +kernel
theorem dX1_takeParts_11 : decode cX1_takeParts 11 = .ok (.getfield 80, 3) := by decide +kernel
theorem dX1_takeParts_14 : decode cX1_takeParts 14 = .ok (.iload_n 1, 1) := by decide +kernel
theorem dX1_takeParts_15 : decode cX1_takeParts 15 = .ok (.aload_n 0, 1) := by decide +kernel
theorem dX1_takeParts_16 : decode cX1_takeParts 16 = .ok (.getfield 16, 3) := by decide +kernel
theorem dX1_takeParts_19 : decode cX1_takeParts 19 = .ok (.iload_n 1, 1) := by decide +kernel
theorem dX1_takeParts_20 : decode cX1_takeParts 20 = .ok (.iaload, 1) := by decide +kernel
theorem dX1_takeParts_21 : decode cX1_takeParts 21 = .ok (.iconst 0, 1) := by decide +kernel
theorem dX1_takeParts_22 : decode cX1_takeParts 22 = .ok (.invokestatic 151, 3) := by decide +kernel
theorem dX1_takeParts_25 : decode cX1_takeParts 25 = .ok (.i2l, 1) := by decide +kernel
theorem dX1_takeParts_26 : decode cX1_takeParts 26 = .ok (.aload_n 0, 1) := by decide +kernel
theorem dX1_takeParts_27 : decode cX1_takeParts 27 = .ok (.getfield 37, 3) := by decide +kernel
theorem dX1_takeParts_30 : decode cX1_takeParts 30 = .ok (.lmul, 1) := by decide +kernel
theorem dX1_takeParts_31 : decode cX1_takeParts 31 = .ok (.lastore, 1) := by decide +kernel
theorem dX1_takeParts_32 : decode cX1_takeParts 32 = .ok (.iinc 1 1, 3) := by decide +kernel
theorem dX1_takeParts_35 : decode cX1_takeParts 35 = .ok (.goto (-33), 3) := by decide +kernel
theorem dX1_takeParts_38 : decode cX1_takeParts 38 = .ok (.iconst 0, 1) := by decide +kernel
theorem dX1_takeParts_39 : decode cX1_takeParts 39 = .ok (.istore_n 1, 1) := by decide +kernel
theorem dX1_takeParts_40 : decode cX1_takeParts 40 = .ok (.iload_n 1, 1) := by decide +kernel
theorem dX1_takeParts_41 : decode cX1_takeParts 41 = .ok (.aload_n 0, 1) := by decide +kernel
theorem dX1_takeParts_42 : decode cX1_takeParts 42 = .ok (.getfield 30, 3) := by decide +kernel
theorem dX1_takeParts_45 : decode cX1_takeParts 45 = .ok (.if_icmp .ge 33, 3) := by decide +kernel
theorem dX1_takeParts_48 : decode cX1_takeParts 48 = .ok (.aload_n 0, 1) := by decide +kernel
theorem dX1_takeParts_49 : decode cX1_takeParts 49 = .ok (.getfield 26, 3) := by decide +kernel
theorem dX1_takeParts_52 : decode cX1_takeParts 52 = .ok (.getfield 80, 3) := by decide +kernel
theorem dX1_takeParts_55 : decode cX1_takeParts 55 = .ok (.aload_n 0, 1) := by decide +kernel
theorem dX1_takeParts_56 : decode cX1_takeParts 56 = .ok (.getfield 20, 3) := by decide +kernel
theorem dX1_takeParts_59 : decode cX1_takeParts 59 = .ok (.iload_n 1, 1) := by decide +kernel
theorem dX1_takeParts_60 : decode cX1_takeParts 60 = .ok (.iaload, 1) := by decide +kernel
theorem dX1_takeParts_61 : decode cX1_takeParts 61 = .ok (.aload_n 0, 1) := by decide +kernel
theorem dX1_takeParts_62 : decode cX1_takeParts 62 = .ok (.getfield 13, 3) := by decide +kernel
theorem dX1_takeParts_65 : decode cX1_takeParts 65 = .ok (.iconst 1, 1) := by decide +kernel
theorem dX1_takeParts_66 : decode cX1_takeParts 66 = .ok (.iload_n 1, 1) := by decide +kernel
theorem dX1_takeParts_67 : decode cX1_takeParts 67 = .ok (.iadd, 1) := by decide +kernel
theorem dX1_takeParts_68 : decode cX1_takeParts 68 = .ok (.aaload, 1) := by decide +kernel
theorem dX1_takeParts_69 : decode cX1_takeParts 69 = .ok (.iconst 4, 1) := by decide +kernel
theorem dX1_takeParts_70 : decode cX1_takeParts 70 = .ok (.laload, 1) := by decide +kernel
theorem dX1_takeParts_71 : decode cX1_takeParts 71 = .ok (.lastore, 1) := by decide +kernel
theorem dX1_takeParts_72 : decode cX1_takeParts 72 = .ok (.iinc 1 1, 3) := by decide +kernel
theorem dX1_takeParts_75 : decode cX1_takeParts 75 = .ok (.goto (-35), 3) := by decide +kernel
theorem dX1_takeParts_78 : decode cX1_takeParts 78 = .ok (.aload_n 0, 1) := by decide +kernel
theorem dX1_takeParts_79 : decode cX1_takeParts 79 = .ok (.getfield 26, 3) := by decide +kernel
theorem dX1_takeParts_82 : decode cX1_takeParts 82 = .ok (.aload_n 0, 1) := by decide +kernel
theorem dX1_takeParts_83 : decode cX1_takeParts 83 = .ok (.getfield 13, 3) := by decide +kernel
theorem dX1_takeParts_86 : decode cX1_takeParts 86 = .ok (.iconst 0, 1) := by decide +kernel
theorem dX1_takeParts_87 : decode cX1_takeParts 87 = .ok (.aaload, 1) := by decide +kernel
theorem dX1_takeParts_88 : decode cX1_takeParts 88 = .ok (.iconst 4, 1) := by decide +kernel
theorem dX1_takeParts_89 : decode cX1_takeParts 89 = .ok (.laload, 1) := by decide +kernel
theorem dX1_takeParts_90 : decode cX1_takeParts 90 = .ok (.putfield 154, 3) := by decide +kernel
theorem dX1_takeParts_93 : decode cX1_takeParts 93 = .ok (.aload_n 0, 1) := by decide +kernel
theorem dX1_takeParts_94 : decode cX1_takeParts 94 = .ok (.getfield 26, 3) := by decide +kernel
theorem dX1_takeParts_97 : decode cX1_takeParts 97 = .ok (.aload_n 0, 1) := by decide +kernel
theorem dX1_takeParts_98 : decode cX1_takeParts 98 = .ok (.getfield 37, 3) := by decide +kernel
theorem dX1_takeParts_101 : decode cX1_takeParts 101 = .ok (.putfield 84, 3) := by decide +kernel
theorem dX1_takeParts_104 : decode cX1_takeParts 104 = .ok (.aload_n 0, 1) := by decide +kernel
theorem dX1_takeParts_105 : decode cX1_takeParts 105 = .ok (.getfield 26, 3) := by decide +kernel
theorem dX1_takeParts_108 : decode cX1_takeParts 108 = .ok (.iconst 1, 1) := by decide +kernel
theorem dX1_takeParts_109 : decode cX1_takeParts 109 = .ok (.putfield 53, 3) := by decide +kernel
theorem dX1_takeParts_112 : decode cX1_takeParts 112 = .ok (.return_, 1) := by decide +kernel
theorem dX2_init_0 : decode cX2_init 0 = .ok (.aload_n 0, 1) := by decide +kernel
theorem dX2_init_1 : decode cX2_init 1 = .ok (.invokespecial 3, 3) := by decide +kernel
theorem dX2_init_4 : decode cX2_init 4 = .ok (.aload_n 0, 1) := by decide +kernel
theorem dX2_init_5 : decode cX2_init 5 = .ok (.iconst 4, 1) := by decide +kernel
theorem dX2_init_6 : decode cX2_init 6 = .ok (.newarray .long, 2) := by decide +kernel
theorem dX2_init_8 : decode cX2_init 8 = .ok (.putfield 9, 3) := by decide +kernel
theorem dX2_init_11 : decode cX2_init 11 = .ok (.aload_n 0, 1) := by decide +kernel
theorem dX2_init_12 : decode cX2_init 12 = .ok (.iconst 0, 1) := by decide +kernel
theorem dX2_init_13 : decode cX2_init 13 = .ok (.putfield 15, 3) := by decide +kernel
theorem dX2_init_16 : decode cX2_init 16 = .ok (.aload_n 0, 1) := by decide +kernel
theorem dX2_init_17 : decode cX2_init 17 = .ok (.lconst 0, 1) := by decide +kernel
theorem dX2_init_18 : decode cX2_init 18 = .ok (.putfield 19, 3) := by decide +kernel
theorem dX2_init_21 : decode cX2_init 21 = .ok (.aload_n 0, 1) := by decide +kernel
theorem dX2_init_22 : decode cX2_init 22 = .ok (.lconst 1, 1) := by decide +kernel
theorem dX2_init_23 : decode cX2_init 23 = .ok (.putfield 23, 3) := by decide +kernel
theorem dX2_init_26 : decode cX2_init 26 = .ok (.return_, 1) := by decide +kernel
theorem dX2_copyOf_0 : decode cX2_copyOf 0 = .ok (.aload_n 1, 1) := by decide +kernel
theorem dX2_copyOf_1 : decode cX2_copyOf 1 = .ok (.getfield 9, 3) := by decide +kernel
theorem dX2_copyOf_4 : decode cX2_copyOf 4 = .ok (.iconst 0, 1) := by decide +kernel
theorem dX2_copyOf_5 : decode cX2_copyOf 5 = .ok (.aload_n 0, 1) := by decide +kernel
theorem dX2_copyOf_6 : decode cX2_copyOf 6 = .ok (.getfield 9, 3) := by decide +kernel
theorem dX2_copyOf_9 : decode cX2_copyOf 9 = .ok (.iconst 0, 1) := by decide +kernel
theorem dX2_copyOf_10 : decode cX2_copyOf 10 = .ok (.iconst 4, 1) := by decide +kernel
theorem dX2_copyOf_11 : decode cX2_copyOf 11 = .ok (.invokestatic 26, 3) := by decide +kernel
theorem dX2_copyOf_14 : decode cX2_copyOf 14 = .ok (.aload_n 0, 1) := by decide +kernel
theorem dX2_copyOf_15 : decode cX2_copyOf 15 = .ok (.aload_n 1, 1) := by decide +kernel
theorem dX2_copyOf_16 : decode cX2_copyOf 16 = .ok (.getfield 15, 3) := by decide +kernel
theorem dX2_copyOf_19 : decode cX2_copyOf 19 = .ok (.putfield 15, 3) := by decide +kernel
theorem dX2_copyOf_22 : decode cX2_copyOf 22 = .ok (.aload_n 0, 1) := by decide +kernel
theorem dX2_copyOf_23 : decode cX2_copyOf 23 = .ok (.aload_n 1, 1) := by decide +kernel
theorem dX2_copyOf_24 : decode cX2_copyOf 24 = .ok (.getfield 19, 3) := by decide +kernel
theorem dX2_copyOf_27 : decode cX2_copyOf 27 = .ok (.putfield 19, 3) := by decide +kernel
theorem dX2_copyOf_30 : decode cX2_copyOf 30 = .ok (.aload_n 0, 1) := by decide +kernel
theorem dX2_copyOf_31 : decode cX2_copyOf 31 = .ok (.aload_n 1, 1) := by decide +kernel
theorem dX2_copyOf_32 : decode cX2_copyOf 32 = .ok (.getfield 23, 3) := by decide +kernel
theorem dX2_copyOf_35 : decode cX2_copyOf 35 = .ok (.putfield 23, 3) := by decide +kernel
theorem dX2_copyOf_38 : decode cX2_copyOf 38 = .ok (.return_, 1) := by decide +kernel
theorem dX2_beats_0 : decode cX2_beats 0 = .ok (.aload_n 1, 1) := by decide +kernel
theorem dX2_beats_1 : decode cX2_beats 1 = .ok (.getfield 15, 3) := by decide +kernel
theorem dX2_beats_4 : decode cX2_beats 4 = .ok (.ifCond .ne 8, 3) := by decide +kernel
theorem dX2_beats_7 : decode cX2_beats 7 = .ok (.aload_n 0, 1) := by decide +kernel
theorem dX2_beats_8 : decode cX2_beats 8 = .ok (.getfield 15, 3) := by decide +kernel
theorem dX2_beats_11 : decode cX2_beats 11 = .ok (.ireturn, 1) := by decide +kernel
theorem dX2_beats_12 : decode cX2_beats 12 = .ok (.aload_n 0, 1) := by decide +kernel
theorem dX2_beats_13 : decode cX2_beats 13 = .ok (.getfield 19, 3) := by decide +kernel
theorem dX2_beats_16 : decode cX2_beats 16 = .ok (.aload_n 1, 1) := by decide +kernel
theorem dX2_beats_17 : decode cX2_beats 17 = .ok (.getfield 23, 3) := by decide +kernel
theorem dX2_beats_20 : decode cX2_beats 20 = .ok (.lmul, 1) := by decide +kernel
theorem dX2_beats_21 : decode cX2_beats 21 = .ok (.aload_n 1, 1) := by decide +kernel
theorem dX2_beats_22 : decode cX2_beats 22 = .ok (.getfield 19, 3) := by decide +kernel
theorem dX2_beats_25 : decode cX2_beats 25 = .ok (.aload_n 0, 1) := by decide +kernel
theorem dX2_beats_26 : decode cX2_beats 26 = .ok (.getfield 23, 3) := by decide +kernel
theorem dX2_beats_29 : decode cX2_beats 29 = .ok (.lmul, 1) := by decide +kernel
theorem dX2_beats_30 : decode cX2_beats 30 = .ok (.invokestatic 32, 3) := by decide +kernel
theorem dX2_beats_33 : decode cX2_beats 33 = .ok (.istore_n 2, 1) := by decide +kernel
theorem dX2_beats_34 : decode cX2_beats 34 = .ok (.iconst 0, 1) := by decide +kernel
theorem dX2_beats_35 : decode cX2_beats 35 = .ok (.istore_n 3, 1) := by decide +kernel
theorem dX2_beats_36 : decode cX2_beats 36 = .ok (.iload_n 3, 1) := by decide +kernel
theorem dX2_beats_37 : decode cX2_beats 37 = .ok (.iconst 4, 1) := by decide +kernel
theorem dX2_beats_38 : decode cX2_beats 38 = .ok (.if_icmp .ge 39, 3) := by decide +kernel
theorem dX2_beats_41 : decode cX2_beats 41 = .ok (.iload_n 2, 1) := by decide +kernel
theorem dX2_beats_42 : decode cX2_beats 42 = .ok (.ifCond .ne 35, 3) := by decide +kernel
theorem dX2_beats_45 : decode cX2_beats 45 = .ok (.aload_n 1, 1) := by decide +kernel
theorem dX2_beats_46 : decode cX2_beats 46 = .ok (.getfield 9, 3) := by decide +kernel
theorem dX2_beats_49 : decode cX2_beats 49 = .ok (.iload_n 3, 1) := by decide +kernel
theorem dX2_beats_50 : decode cX2_beats 50 = .ok (.laload, 1) := by decide +kernel
theorem dX2_beats_51 : decode cX2_beats 51 = .ok (.aload_n 0, 1) := by decide +kernel
theorem dX2_beats_52 : decode cX2_beats 52 = .ok (.getfield 23, 3) := by decide +kernel
theorem dX2_beats_55 : decode cX2_beats 55 = .ok (.lmul, 1) := by decide +kernel
theorem dX2_beats_56 : decode cX2_beats 56 = .ok (.aload_n 0, 1) := by decide +kernel
theorem dX2_beats_57 : decode cX2_beats 57 = .ok (.getfield 9, 3) := by decide +kernel
theorem dX2_beats_60 : decode cX2_beats 60 = .ok (.iload_n 3, 1) := by decide +kernel
theorem dX2_beats_61 : decode cX2_beats 61 = .ok (.laload, 1) := by decide +kernel
theorem dX2_beats_62 : decode cX2_beats 62 = .ok (.aload_n 1, 1) := by decide +kernel
theorem dX2_beats_63 : decode cX2_beats 63 = .ok (.getfield 23, 3) := by decide +kernel
theorem dX2_beats_66 : decode cX2_beats 66 = .ok (.lmul, 1) := by decide +kernel
theorem dX2_beats_67 : decode cX2_beats 67 = .ok (.invokestatic 32, 3) := by decide +kernel
theorem dX2_beats_70 : decode cX2_beats 70 = .ok (.istore_n 2, 1) := by decide +kernel
theorem dX2_beats_71 : decode cX2_beats 71 = .ok (.iinc 3 1, 3) := by decide +kernel
theorem dX2_beats_74 : decode cX2_beats 74 = .ok (.goto (-38), 3) := by decide +kernel
theorem dX2_beats_77 : decode cX2_beats 77 = .ok (.aload_n 0, 1) := by decide +kernel
theorem dX2_beats_78 : decode cX2_beats 78 = .ok (.getfield 15, 3) := by decide +kernel
theorem dX2_beats_81 : decode cX2_beats 81 = .ok (.ifCond .eq 11, 3) := by decide +kernel
theorem dX2_beats_84 : decode cX2_beats 84 = .ok (.iload_n 2, 1) := by decide +kernel
theorem dX2_beats_85 : decode cX2_beats 85 = .ok (.ifCond .le 7, 3) := by decide +kernel
theorem dX2_beats_88 : decode cX2_beats 88 = .ok (.iconst 1, 1) := by decide +kernel
theorem dX2_beats_89 : decode cX2_beats 89 = .ok (.goto 4, 3) := by decide +kernel
theorem dX2_beats_92 : decode cX2_beats 92 = .ok (.iconst 0, 1) := by decide +kernel
theorem dX2_beats_93 : decode cX2_beats 93 = .ok (.ireturn, 1) := by decide +kernel
theorem dX3_init_0 : decode cX3_init 0 = .ok (.aload_n 0, 1) := by decide +kernel
theorem dX3_init_1 : decode cX3_init 1 = .ok (.invokespecial 3, 3) := by decide +kernel
theorem dX3_init_4 : decode cX3_init 4 = .ok (.aload_n 0, 1) := by decide +kernel
theorem dX3_init_5 : decode cX3_init 5 = .ok (.sipush 300, 3) := by decide +kernel
theorem dX3_init_8 : decode cX3_init 8 = .ok (.newarray .byte, 2) := by decide +kernel
theorem dX3_init_10 : decode cX3_init 10 = .ok (.putfield 11, 3) := by decide +kernel
theorem dX3_init_13 : decode cX3_init 13 = .ok (.aload_n 0, 1) := by decide +kernel
theorem dX3_init_14 : decode cX3_init 14 = .ok (.iconst 0, 1) := by decide +kernel
theorem dX3_init_15 : decode cX3_init 15 = .ok (.putfield 15, 3) := by decide +kernel
theorem dX3_init_18 : decode cX3_init 18 = .ok (.aload_n 0, 1) := by decide +kernel
theorem dX3_init_19 : decode cX3_init 19 = .ok (.iconst 0, 1) := by decide +kernel
theorem dX3_init_20 : decode cX3_init 20 = .ok (.putfield 19, 3) := by decide +kernel
theorem dX3_init_23 : decode cX3_init 23 = .ok (.aload_n 0, 1) := by decide +kernel
theorem dX3_init_24 : decode cX3_init 24 = .ok (.iconst 0, 1) := by decide +kernel
theorem dX3_init_25 : decode cX3_init 25 = .ok (.putfield 22, 3) := by decide +kernel
theorem dX3_init_28 : decode cX3_init 28 = .ok (.aload_n 0, 1) := by decide +kernel
theorem dX3_init_29 : decode cX3_init 29 = .ok (.iconst 0, 1) := by decide +kernel
theorem dX3_init_30 : decode cX3_init 30 = .ok (.putfield 25, 3) := by decide +kernel
theorem dX3_init_33 : decode cX3_init 33 = .ok (.aload_n 0, 1) := by decide +kernel
theorem dX3_init_34 : decode cX3_init 34 = .ok (.iconst 0, 1) := by decide +kernel
theorem dX3_init_35 : decode cX3_init 35 = .ok (.putfield 28, 3) := by decide +kernel
theorem dX3_init_38 : decode cX3_init 38 = .ok (.return_, 1) := by decide +kernel
theorem dX3_put_0 : decode cX3_put 0 = .ok (.iload_n 3, 1) := by decide +kernel
theorem dX3_put_1 : decode cX3_put 1 = .ok (.iconst 1, 1) := by decide +kernel
theorem dX3_put_2 : decode cX3_put 2 = .ok (.if_icmp .lt 15, 3) := by decide +kernel
theorem dX3_put_5 : decode cX3_put 5 = .ok (.iload_n 3, 1) := by decide +kernel
theorem dX3_put_6 : decode cX3_put 6 = .ok (.sipush 300, 3) := by decide +kernel
theorem dX3_put_9 : decode cX3_put 9 = .ok (.aload_n 0, 1) := by decide +kernel
theorem dX3_put_10 : decode cX3_put 10 = .ok (.getfield 15, 3) := by decide +kernel
theorem dX3_put_13 : decode cX3_put 13 = .ok (.isub, 1) := by decide +kernel
theorem dX3_put_14 : decode cX3_put 14 = .ok (.if_icmp .le 6, 3) := by decide +kernel
theorem dX3_put_17 : decode cX3_put 17 = .ok (.bipush (-3), 2) := by decide +kernel
theorem dX3_put_19 : decode cX3_put 19 = .ok (.ireturn, 1) := by decide +kernel
theorem dX3_put_20 : decode cX3_put 20 = .ok (.iload_n 3, 1) := by decide +kernel
theorem dX3_put_21 : decode cX3_put 21 = .ok (.iconst 1, 1) := by decide +kernel
theorem dX3_put_22 : decode cX3_put 22 = .ok (.isub, 1) := by decide +kernel
theorem dX3_put_23 : decode cX3_put 23 = .ok (.istore 4, 2) := by decide +kernel
theorem dX3_put_25 : decode cX3_put 25 = .ok (.iload 4, 2) := by decide +kernel
theorem dX3_put_27 : decode cX3_put 27 = .ok (.ifCond .lt 37, 3) := by decide +kernel
theorem dX3_put_30 : decode cX3_put 30 = .ok (.aload_n 0, 1) := by decide +kernel
theorem dX3_put_31 : decode cX3_put 31 = .ok (.getfield 11, 3) := by decide +kernel
theorem dX3_put_34 : decode cX3_put 34 = .ok (.aload_n 0, 1) := by decide +kernel
theorem dX3_put_35 : decode cX3_put 35 = .ok (.getfield 15, 3) := by decide +kernel
theorem dX3_put_38 : decode cX3_put 38 = .ok (.lload_n 1, 1) := by decide +kernel
theorem dX3_put_39 : decode cX3_put 39 = .ok (.bipush 8, 2) := by decide +kernel
theorem dX3_put_41 : decode cX3_put 41 = .ok (.iload 4, 2) := by decide +kernel
theorem dX3_put_43 : decode cX3_put 43 = .ok (.imul, 1) := by decide +kernel
theorem dX3_put_44 : decode cX3_put 44 = .ok (.lushr, 1) := by decide +kernel
theorem dX3_put_45 : decode cX3_put 45 = .ok (.l2i, 1) := by decide +kernel
theorem dX3_put_46 : decode cX3_put 46 = .ok (.i2b, 1) := by decide +kernel
theorem dX3_put_47 : decode cX3_put 47 = .ok (.bastore, 1) := by decide +kernel
theorem dX3_put_48 : decode cX3_put 48 = .ok (.aload_n 0, 1) := by decide +kernel
theorem dX3_put_49 : decode cX3_put 49 = .ok (.dup, 1) := by decide +kernel
theorem dX3_put_50 : decode cX3_put 50 = .ok (.getfield 15, 3) := by decide +kernel
theorem dX3_put_53 : decode cX3_put 53 = .ok (.iconst 1, 1) := by decide +kernel
theorem dX3_put_54 : decode cX3_put 54 = .ok (.iadd, 1) := by decide +kernel
theorem dX3_put_55 : decode cX3_put 55 = .ok (.putfield 15, 3) := by decide +kernel
theorem dX3_put_58 : decode cX3_put 58 = .ok (.iinc 4 (-1), 3) := by decide +kernel
theorem dX3_put_61 : decode cX3_put 61 = .ok (.goto (-36), 3) := by decide +kernel
theorem dX3_put_64 : decode cX3_put 64 = .ok (.aload_n 0, 1) := by decide +kernel
theorem dX3_put_65 : decode cX3_put 65 = .ok (.getfield 15, 3) := by decide +kernel
theorem dX3_put_68 : decode cX3_put 68 = .ok (.ireturn, 1) := by decide +kernel
theorem dX3_read_0 : decode cX3_read 0 = .ok (.aload_n 1, 1) := by decide +kernel
theorem dX3_read_1 : decode cX3_read 1 = .ok (.invokevirtual 31, 3) := by decide +kernel
theorem dX3_read_4 : decode cX3_read 4 = .ok (.aload_n 0, 1) := by decide +kernel
theorem dX3_read_5 : decode cX3_read 5 = .ok (.iconst 0, 1) := by decide +kernel
theorem dX3_read_6 : decode cX3_read 6 = .ok (.putfield 19, 3) := by decide +kernel
theorem dX3_read_9 : decode cX3_read 9 = .ok (.iconst 0, 1) := by decide +kernel
theorem dX3_read_10 : decode cX3_read 10 = .ok (.istore_n 2, 1) := by decide +kernel
theorem dX3_read_11 : decode cX3_read 11 = .ok (.iload_n 2, 1) := by decide +kernel
theorem dX3_read_12 : decode cX3_read 12 = .ok (.sipush 300, 3) := by decide +kernel
theorem dX3_read_15 : decode cX3_read 15 = .ok (.if_icmp .gt 81, 3) := by decide +kernel
theorem dX3_read_18 : decode cX3_read 18 = .ok (.aload_n 0, 1) := by decide +kernel
theorem dX3_read_19 : decode cX3_read 19 = .ok (.invokevirtual 36, 3) := by decide +kernel
theorem dX3_read_22 : decode cX3_read 22 = .ok (.aload_n 0, 1) := by decide +kernel
theorem dX3_read_23 : decode cX3_read 23 = .ok (.getfield 25, 3) := by decide +kernel
theorem dX3_read_26 : decode cX3_read 26 = .ok (.ifCond .ne 5, 3) := by decide +kernel
theorem dX3_read_29 : decode cX3_read 29 = .ok (.iload_n 2, 1) := by decide +kernel
theorem dX3_read_30 : decode cX3_read 30 = .ok (.ireturn, 1) := by decide +kernel
theorem dX3_read_31 : decode cX3_read 31 = .ok (.aload_n 0, 1) := by decide +kernel
theorem dX3_read_32 : decode cX3_read 32 = .ok (.getfield 25, 3) := by decide +kernel
theorem dX3_read_35 : decode cX3_read 35 = .ok (.iconst 5, 1) := by decide +kernel
theorem dX3_read_36 : decode cX3_read 36 = .ok (.if_icmp .ne 11, 3) := by decide +kernel
theorem dX3_read_39 : decode cX3_read 39 = .ok (.aload_n 0, 1) := by decide +kernel
theorem dX3_read_40 : decode cX3_read 40 = .ok (.aload_n 1, 1) := by decide +kernel
theorem dX3_read_41 : decode cX3_read 41 = .ok (.invokevirtual 39, 3) := by decide +kernel
theorem dX3_read_44 : decode cX3_read 44 = .ok (.goto 33, 3) := by decide +kernel
theorem dX3_read_47 : decode cX3_read 47 = .ok (.aload_n 0, 1) := by decide +kernel
theorem dX3_read_48 : decode cX3_read 48 = .ok (.getfield 25, 3) := by decide +kernel
theorem dX3_read_51 : decode cX3_read 51 = .ok (.bipush 6, 2) := by decide +kernel
theorem dX3_read_53 : decode cX3_read 53 = .ok (.if_icmp .ne 23, 3) := by decide +kernel
theorem dX3_read_56 : decode cX3_read 56 = .ok (.aload_n 0, 1) := by decide +kernel
theorem dX3_read_57 : decode cX3_read 57 = .ok (.aload_n 1, 1) := by decide +kernel
theorem dX3_read_58 : decode cX3_read 58 = .ok (.invokevirtual 43, 3) := by decide +kernel
theorem dX3_read_61 : decode cX3_read 61 = .ok (.ifCond .eq 15, 3) := by decide +kernel
theorem dX3_read_64 : decode cX3_read 64 = .ok (.aload_n 0, 1) := by decide +kernel
theorem dX3_read_65 : decode cX3_read 65 = .ok (.aload_n 1, 1) := by decide +kernel
theorem dX3_read_66 : decode cX3_read 66 = .ok (.invokevirtual 46, 3) := by decide +kernel
theorem dX3_read_69 : decode cX3_read 69 = .ok (.ifCond .eq 7, 3) := by decide +kernel
theorem dX3_read_72 : decode cX3_read 72 = .ok (.iconst 1, 1) := by decide +kernel
theorem dX3_read_73 : decode cX3_read 73 = .ok (.goto 4, 3) := by decide +kernel
theorem dX3_read_76 : decode cX3_read 76 = .ok (.iconst 0, 1) := by decide +kernel
theorem dX3_read_77 : decode cX3_read 77 = .ok (.istore_n 3, 1) := by decide +kernel
theorem dX3_read_78 : decode cX3_read 78 = .ok (.iload_n 3, 1) := by decide +kernel
theorem dX3_read_79 : decode cX3_read 79 = .ok (.ifCond .ne 11, 3) := by decide +kernel
theorem dX3_read_82 : decode cX3_read 82 = .ok (.bipush (-10), 2) := by decide +kernel
theorem dX3_read_84 : decode cX3_read 84 = .ok (.aload_n 0, 1) := by decide +kernel
theorem dX3_read_85 : decode cX3_read 85 = .ok (.getfield 22, 3) := by decide +kernel
theorem dX3_read_88 : decode cX3_read 88 = .ok (.isub, 1) := by decide +kernel
theorem dX3_read_89 : decode cX3_read 89 = .ok (.ireturn, 1) := by decide +kernel
theorem dX3_read_90 : decode cX3_read 90 = .ok (.iinc 2 1, 3) := by decide +kernel
theorem dX3_read_93 : decode cX3_read 93 = .ok (.goto (-82), 3) := by decide +kernel
theorem dX3_read_96 : decode cX3_read 96 = .ok (.bipush (-10), 2) := by decide +kernel
theorem dX3_read_98 : decode cX3_read 98 = .ok (.aload_n 0, 1) := by decide +kernel
theorem dX3_read_99 : decode cX3_read 99 = .ok (.getfield 15, 3) := by decide +kernel
theorem dX3_read_102 : decode cX3_read 102 = .ok (.isub, 1) := by decide +kernel
theorem dX3_read_103 : decode cX3_read 103 = .ok (.ireturn, 1) := by decide +kernel
theorem dX3_readsGate_0 : decode cX3_readsGate 0 = .ok (.aload_n 0, 1) := by decide +kernel
theorem dX3_readsGate_1 : decode cX3_readsGate 1 = .ok (.invokevirtual 36, 3) := by decide +kernel
theorem dX3_readsGate_4 : decode cX3_readsGate 4 = .ok (.aload_n 0, 1) := by decide +kernel
theorem dX3_readsGate_5 : decode cX3_readsGate 5 = .ok (.getfield 25, 3) := by decide +kernel
theorem dX3_readsGate_8 : decode cX3_readsGate 8 = .ok (.iconst 3, 1) := by decide +kernel
theorem dX3_readsGate_9 : decode cX3_readsGate 9 = .ok (.if_icmp .ne 15, 3) := by decide +kernel
theorem dX3_readsGate_12 : decode cX3_readsGate 12 = .ok (.aload_n 1, 1) := by decide +kernel
theorem dX3_readsGate_13 : decode cX3_readsGate 13 = .ok (.getfield 49, 3) := by decide +kernel
theorem dX3_readsGate_16 : decode cX3_readsGate 16 = .ok (.aload_n 0, 1) := by decide +kernel
theorem dX3_readsGate_17 : decode cX3_readsGate 17 = .ok (.getfield 28, 3) := by decide +kernel
theorem dX3_readsGate_20 : decode cX3_readsGate 20 = .ok (.baload, 1) := by decide +kernel
theorem dX3_readsGate_21 : decode cX3_readsGate 21 = .ok (.ifCond .eq 5, 3) := by decide +kernel
theorem dX3_readsGate_24 : decode cX3_readsGate 24 = .ok (.iconst 0, 1) := by decide +kernel
theorem dX3_readsGate_25 : decode cX3_readsGate 25 = .ok (.ireturn, 1) := by decide +kernel
theorem dX3_readsGate_26 : decode cX3_readsGate 26 = .ok (.aload_n 0, 1) := by decide +kernel
theorem dX3_readsGate_27 : decode cX3_readsGate 27 = .ok (.getfield 28, 3) := by decide +kernel
theorem dX3_readsGate_30 : decode cX3_readsGate 30 = .ok (.istore_n 2, 1) := by decide +kernel
theorem dX3_readsGate_31 : decode cX3_readsGate 31 = .ok (.aload_n 0, 1) := by decide +kernel
theorem dX3_readsGate_32 : decode cX3_readsGate 32 = .ok (.invokevirtual 36, 3) := by decide +kernel
theorem dX3_readsGate_35 : decode cX3_readsGate 35 = .ok (.aload_n 0, 1) := by decide +kernel
theorem dX3_readsGate_36 : decode cX3_readsGate 36 = .ok (.getfield 25, 3) := by decide +kernel
theorem dX3_readsGate_39 : decode cX3_readsGate 39 = .ok (.bipush 7, 2) := by decide +kernel
theorem dX3_readsGate_41 : decode cX3_readsGate 41 = .ok (.if_icmp .eq 14, 3) := by decide +kernel
theorem dX3_readsGate_44 : decode cX3_readsGate 44 = .ok (.aload_n 0, 1) := by decide +kernel
theorem dX3_readsGate_45 : decode cX3_readsGate 45 = .ok (.getfield 25, 3) := by decide +kernel
theorem dX3_readsGate_48 : decode cX3_readsGate 48 = .ok (.bipush 8, 2) := by decide +kernel
theorem dX3_readsGate_50 : decode cX3_readsGate 50 = .ok (.if_icmp .eq 5, 3) := by decide +kernel
theorem dX3_readsGate_53 : decode cX3_readsGate 53 = .ok (.iconst 0, 1) := by decide +kernel
theorem dX3_readsGate_54 : decode cX3_readsGate 54 = .ok (.ireturn, 1) := by decide +kernel
theorem dX3_readsGate_55 : decode cX3_readsGate 55 = .ok (.aload_n 0, 1) := by decide +kernel
theorem dX3_readsGate_56 : decode cX3_readsGate 56 = .ok (.getfield 25, 3) := by decide +kernel
theorem dX3_readsGate_59 : decode cX3_readsGate 59 = .ok (.bipush 8, 2) := by decide +kernel
theorem dX3_readsGate_61 : decode cX3_readsGate 61 = .ok (.if_icmp .ne 7, 3) := by decide +kernel
theorem dX3_readsGate_64 : decode cX3_readsGate 64 = .ok (.iconst 1, 1) := by decide +kernel
theorem dX3_readsGate_65 : decode cX3_readsGate 65 = .ok (.goto 4, 3) := by decide +kernel
theorem dX3_readsGate_68 : decode cX3_readsGate 68 = .ok (.iconst 0, 1) := by decide +kernel
theorem dX3_readsGate_69 : decode cX3_readsGate 69 = .ok (.istore_n 3, 1) := by decide +kernel
theorem dX3_readsGate_70 : decode cX3_readsGate 70 = .ok (.aload_n 0, 1) := by decide +kernel
theorem dX3_readsGate_71 : decode cX3_readsGate 71 = .ok (.iconst 0, 1) := by decide +kernel
theorem dX3_readsGate_72 : decode cX3_readsGate 72 = .ok (.bipush 99, 2) := by decide +kernel
theorem dX3_readsGate_74 : decode cX3_readsGate 74 = .ok (.invokevirtual 53, 3) := by decide +kernel
theorem dX3_readsGate_77 : decode cX3_readsGate 77 = .ok (.ifCond .ne 5, 3) := by decide +kernel
theorem dX3_readsGate_80 : decode cX3_readsGate 80 = .ok (.iconst 0, 1) := by decide +kernel
theorem dX3_readsGate_81 : decode cX3_readsGate 81 = .ok (.ireturn, 1) := by decide +kernel
theorem dX3_readsGate_82 : decode cX3_readsGate 82 = .ok (.aload_n 0, 1) := by decide +kernel
theorem dX3_readsGate_83 : decode cX3_readsGate 83 = .ok (.getfield 28, 3) := by decide +kernel
theorem dX3_readsGate_86 : decode cX3_readsGate 86 = .ok (.istore 4, 2) := by decide +kernel
theorem dX3_readsGate_88 : decode cX3_readsGate 88 = .ok (.aload_n 0, 1) := by decide +kernel
theorem dX3_readsGate_89 : decode cX3_readsGate 89 = .ok (.invokevirtual 36, 3) := by decide +kernel
theorem dX3_readsGate_92 : decode cX3_readsGate 92 = .ok (.aload_n 0, 1) := by decide +kernel
theorem dX3_readsGate_93 : decode cX3_readsGate 93 = .ok (.getfield 25, 3) := by decide +kernel
theorem dX3_readsGate_96 : decode cX3_readsGate 96 = .ok (.iconst 2, 1) := by decide +kernel
theorem dX3_readsGate_97 : decode cX3_readsGate 97 = .ok (.if_icmp .eq 5, 3) := by decide +kernel
theorem dX3_readsGate_100 : decode cX3_readsGate 100 = .ok (.iconst 0, 1) := by decide +kernel
theorem dX3_readsGate_101 : decode cX3_readsGate 101 = .ok (.ireturn, 1) := by decide +kernel
theorem dX3_readsGate_102 : decode cX3_readsGate 102 = .ok (.aload_n 1, 1) := by decide +kernel
theorem dX3_readsGate_103 : decode cX3_readsGate 103 = .ok (.iload_n 2, 1) := by decide +kernel
theorem dX3_readsGate_104 : decode cX3_readsGate 104 = .ok (.iload_n 3, 1) := by decide +kernel
theorem dX3_readsGate_105 : decode cX3_readsGate 105 = .ok (.iload 4, 2) := by decide +kernel
theorem dX3_readsGate_107 : decode cX3_readsGate 107 = .ok (.invokevirtual 57, 3) := by decide +kernel
theorem dX3_readsGate_110 : decode cX3_readsGate 110 = .ok (.iconst 1, 1) := by decide +kernel
theorem dX3_readsGate_111 : decode cX3_readsGate 111 = .ok (.ireturn, 1) := by decide +kernel
theorem dX3_readsWish_0 : decode cX3_readsWish 0 = .ok (.aload_n 1, 1) := by decide +kernel
theorem dX3_readsWish_1 : decode cX3_readsWish 1 = .ok (.getfield 61, 3) := by decide +kernel
theorem dX3_readsWish_4 : decode cX3_readsWish 4 = .ok (.iconst 4, 1) := by decide +kernel
theorem dX3_readsWish_5 : decode cX3_readsWish 5 = .ok (.if_icmp .lt 5, 3) := by decide +kernel
theorem dX3_readsWish_8 : decode cX3_readsWish 8 = .ok (.iconst 0, 1) := by decide +kernel
theorem dX3_readsWish_9 : decode cX3_readsWish 9 = .ok (.ireturn, 1) := by decide +kernel
theorem dX3_readsWish_10 : decode cX3_readsWish 10 = .ok (.aload_n 0, 1) := by decide +kernel
theorem dX3_readsWish_11 : decode cX3_readsWish 11 = .ok (.iconst 0, 1) := by decide +kernel
theorem dX3_readsWish_12 : decode cX3_readsWish 12 = .ok (.bipush 99, 2) := by decide +kernel
theorem dX3_readsWish_14 : decode cX3_readsWish 14 = .ok (.invokevirtual 53, 3) := by decide +kernel
theorem dX3_readsWish_17 : decode cX3_readsWish 17 = .ok (.ifCond .ne 5, 3) := by decide +kernel
theorem dX3_readsWish_20 : decode cX3_readsWish 20 = .ok (.iconst 0, 1) := by decide +kernel
theorem dX3_readsWish_21 : decode cX3_readsWish 21 = .ok (.ireturn, 1) := by decide +kernel
theorem dX3_readsWish_22 : decode cX3_readsWish 22 = .ok (.aload_n 0, 1) := by decide +kernel
theorem dX3_readsWish_23 : decode cX3_readsWish 23 = .ok (.getfield 28, 3) := by decide +kernel
theorem dX3_readsWish_26 : decode cX3_readsWish 26 = .ok (.istore_n 2, 1) := by decide +kernel
theorem dX3_readsWish_27 : decode cX3_readsWish 27 = .ok (.aload_n 0, 1) := by decide +kernel
theorem dX3_readsWish_28 : decode cX3_readsWish 28 = .ok (.invokevirtual 36, 3) := by decide +kernel
theorem dX3_readsWish_31 : decode cX3_readsWish 31 = .ok (.aload_n 0, 1) := by decide +kernel
theorem dX3_readsWish_32 : decode cX3_readsWish 32 = .ok (.getfield 25, 3) := by decide +kernel
theorem dX3_readsWish_35 : decode cX3_readsWish 35 = .ok (.bipush 9, 2) := by decide +kernel
theorem dX3_readsWish_37 : decode cX3_readsWish 37 = .ok (.if_icmp .eq 5, 3) := by decide +kernel
theorem dX3_readsWish_40 : decode cX3_readsWish 40 = .ok (.iconst 0, 1) := by decide +kernel
theorem dX3_readsWish_41 : decode cX3_readsWish 41 = .ok (.ireturn, 1) := by decide +kernel
theorem dX3_readsWish_42 : decode cX3_readsWish 42 = .ok (.aload_n 0, 1) := by decide +kernel
theorem dX3_readsWish_43 : decode cX3_readsWish 43 = .ok (.getfield 28, 3) := by decide +kernel
theorem dX3_readsWish_46 : decode cX3_readsWish 46 = .ok (.istore_n 3, 1) := by decide +kernel
theorem dX3_readsWish_47 : decode cX3_readsWish 47 = .ok (.aload_n 0, 1) := by decide +kernel
theorem dX3_readsWish_48 : decode cX3_readsWish 48 = .ok (.iconst 1, 1) := by decide +kernel
theorem dX3_readsWish_49 : decode cX3_readsWish 49 = .ok (.bipush 12, 2) := by decide +kernel
theorem dX3_readsWish_51 : decode cX3_readsWish 51 = .ok (.invokevirtual 53, 3) := by decide +kernel
theorem dX3_readsWish_54 : decode cX3_readsWish 54 = .ok (.ifCond .ne 5, 3) := by decide +kernel
theorem dX3_readsWish_57 : decode cX3_readsWish 57 = .ok (.iconst 0, 1) := by decide +kernel
theorem dX3_readsWish_58 : decode cX3_readsWish 58 = .ok (.ireturn, 1) := by decide +kernel
theorem dX3_readsWish_59 : decode cX3_readsWish 59 = .ok (.aload_n 1, 1) := by decide +kernel
theorem dX3_readsWish_60 : decode cX3_readsWish 60 = .ok (.iload_n 2, 1) := by decide +kernel
theorem dX3_readsWish_61 : decode cX3_readsWish 61 = .ok (.iload_n 3, 1) := by decide +kernel
theorem dX3_readsWish_62 : decode cX3_readsWish 62 = .ok (.aload_n 0, 1) := by decide +kernel
theorem dX3_readsWish_63 : decode cX3_readsWish 63 = .ok (.getfield 28, 3) := by decide +kernel
theorem dX3_readsWish_66 : decode cX3_readsWish 66 = .ok (.invokevirtual 64, 3) := by decide +kernel
theorem dX3_readsWish_69 : decode cX3_readsWish 69 = .ok (.iconst 1, 1) := by decide +kernel
theorem dX3_readsWish_70 : decode cX3_readsWish 70 = .ok (.ireturn, 1) := by decide +kernel
theorem dX3_readsUses_0 : decode cX3_readsUses 0 = .ok (.aload_n 1, 1) := by decide +kernel
theorem dX3_readsUses_1 : decode cX3_readsUses 1 = .ok (.getfield 61, 3) := by decide +kernel
theorem dX3_readsUses_4 : decode cX3_readsUses 4 = .ok (.iconst 1, 1) := by decide +kernel
theorem dX3_readsUses_5 : decode cX3_readsUses 5 = .ok (.if_icmp .ge 5, 3) := by decide +kernel
theorem dX3_readsUses_8 : decode cX3_readsUses 8 = .ok (.iconst 0, 1) := by decide +kernel
theorem dX3_readsUses_9 : decode cX3_readsUses 9 = .ok (.ireturn, 1) := by decide +kernel
theorem dX3_readsUses_10 : decode cX3_readsUses 10 = .ok (.aload_n 1, 1) := by decide +kernel
theorem dX3_readsUses_11 : decode cX3_readsUses 11 = .ok (.getfield 68, 3) := by decide +kernel
theorem dX3_readsUses_14 : decode cX3_readsUses 14 = .ok (.aload_n 1, 1) := by decide +kernel
theorem dX3_readsUses_15 : decode cX3_readsUses 15 = .ok (.getfield 61, 3) := by decide +kernel
theorem dX3_readsUses_18 : decode cX3_readsUses 18 = .ok (.iconst 1, 1) := by decide +kernel
theorem dX3_readsUses_19 : decode cX3_readsUses 19 = .ok (.isub, 1) := by decide +kernel
theorem dX3_readsUses_20 : decode cX3_readsUses 20 = .ok (.aaload, 1) := by decide +kernel
theorem dX3_readsUses_21 : decode cX3_readsUses 21 = .ok (.astore_n 2, 1) := by decide +kernel
theorem dX3_readsUses_22 : decode cX3_readsUses 22 = .ok (.iconst 0, 1) := by decide +kernel
theorem dX3_readsUses_23 : decode cX3_readsUses 23 = .ok (.istore_n 3, 1) := by decide +kernel
theorem dX3_readsUses_24 : decode cX3_readsUses 24 = .ok (.iload_n 3, 1) := by decide +kernel
theorem dX3_readsUses_25 : decode cX3_readsUses 25 = .ok (.iconst 5, 1) := by decide +kernel
theorem dX3_readsUses_26 : decode cX3_readsUses 26 = .ok (.if_icmp .gt 80, 3) := by decide +kernel
theorem dX3_readsUses_29 : decode cX3_readsUses 29 = .ok (.aload_n 0, 1) := by decide +kernel
theorem dX3_readsUses_30 : decode cX3_readsUses 30 = .ok (.invokevirtual 36, 3) := by decide +kernel
theorem dX3_readsUses_33 : decode cX3_readsUses 33 = .ok (.aload_n 0, 1) := by decide +kernel
theorem dX3_readsUses_34 : decode cX3_readsUses 34 = .ok (.getfield 25, 3) := by decide +kernel
theorem dX3_readsUses_37 : decode cX3_readsUses 37 = .ok (.iconst 2, 1) := by decide +kernel
theorem dX3_readsUses_38 : decode cX3_readsUses 38 = .ok (.if_icmp .ne 5, 3) := by decide +kernel
theorem dX3_readsUses_41 : decode cX3_readsUses 41 = .ok (.iconst 1, 1) := by decide +kernel
theorem dX3_readsUses_42 : decode cX3_readsUses 42 = .ok (.ireturn, 1) := by decide +kernel
theorem dX3_readsUses_43 : decode cX3_readsUses 43 = .ok (.aload_n 0, 1) := by decide +kernel
theorem dX3_readsUses_44 : decode cX3_readsUses 44 = .ok (.getfield 25, 3) := by decide +kernel
theorem dX3_readsUses_47 : decode cX3_readsUses 47 = .ok (.iconst 3, 1) := by decide +kernel
theorem dX3_readsUses_48 : decode cX3_readsUses 48 = .ok (.if_icmp .ne 24, 3) := by decide +kernel
theorem dX3_readsUses_51 : decode cX3_readsUses 51 = .ok (.aload_n 1, 1) := by decide +kernel
theorem dX3_readsUses_52 : decode cX3_readsUses 52 = .ok (.getfield 49, 3) := by decide +kernel
theorem dX3_readsUses_55 : decode cX3_readsUses 55 = .ok (.aload_n 0, 1) := by decide +kernel
theorem dX3_readsUses_56 : decode cX3_readsUses 56 = .ok (.getfield 28, 3) := by decide +kernel
theorem dX3_readsUses_59 : decode cX3_readsUses 59 = .ok (.baload, 1) := by decide +kernel
theorem dX3_readsUses_60 : decode cX3_readsUses 60 = .ok (.ifCond .eq 12, 3) := by decide +kernel
theorem dX3_readsUses_63 : decode cX3_readsUses 63 = .ok (.aload_n 2, 1) := by decide +kernel
theorem dX3_readsUses_64 : decode cX3_readsUses 64 = .ok (.aload_n 0, 1) := by decide +kernel
theorem dX3_readsUses_65 : decode cX3_readsUses 65 = .ok (.getfield 28, 3) := by decide +kernel
theorem dX3_readsUses_68 : decode cX3_readsUses 68 = .ok (.iaload, 1) := by decide +kernel
theorem dX3_readsUses_69 : decode cX3_readsUses 69 = .ok (.ifCond .le 5, 3) := by decide +kernel
theorem dX3_readsUses_72 : decode cX3_readsUses 72 = .ok (.iconst 0, 1) := by decide +kernel
theorem dX3_readsUses_73 : decode cX3_readsUses 73 = .ok (.ireturn, 1) := by decide +kernel
theorem dX3_readsUses_74 : decode cX3_readsUses 74 = .ok (.aload_n 0, 1) := by decide +kernel
theorem dX3_readsUses_75 : decode cX3_readsUses 75 = .ok (.getfield 28, 3) := by decide +kernel
theorem dX3_readsUses_78 : decode cX3_readsUses 78 = .ok (.istore 4, 2) := by decide +kernel
theorem dX3_readsUses_80 : decode cX3_readsUses 80 = .ok (.aload_n 0, 1) := by decide +kernel
theorem dX3_readsUses_81 : decode cX3_readsUses 81 = .ok (.iconst 1, 1) := by decide +kernel
theorem dX3_readsUses_82 : decode cX3_readsUses 82 = .ok (.bipush 9, 2) := by decide +kernel
theorem dX3_readsUses_84 : decode cX3_readsUses 84 = .ok (.invokevirtual 53, 3) := by decide +kernel
theorem dX3_readsUses_87 : decode cX3_readsUses 87 = .ok (.ifCond .ne 5, 3) := by decide +kernel
theorem dX3_readsUses_90 : decode cX3_readsUses 90 = .ok (.iconst 0, 1) := by decide +kernel
theorem dX3_readsUses_91 : decode cX3_readsUses 91 = .ok (.ireturn, 1) := by decide +kernel
theorem dX3_readsUses_92 : decode cX3_readsUses 92 = .ok (.aload_n 2, 1) := by decide +kernel
theorem dX3_readsUses_93 : decode cX3_readsUses 93 = .ok (.iload 4, 2) := by decide +kernel
theorem dX3_readsUses_95 : decode cX3_readsUses 95 = .ok (.aload_n 0, 1) := by decide +kernel
theorem dX3_readsUses_96 : decode cX3_readsUses 96 = .ok (.getfield 28, 3) := by decide +kernel
theorem dX3_readsUses_99 : decode cX3_readsUses 99 = .ok (.iastore, 1) := by decide +kernel
theorem dX3_readsUses_100 : decode cX3_readsUses 100 = .ok (.iinc 3 1, 3) := by decide +kernel
theorem dX3_readsUses_103 : decode cX3_readsUses 103 = .ok (.goto (-79), 3) := by decide +kernel
theorem dX3_readsUses_106 : decode cX3_readsUses 106 = .ok (.iconst 0, 1) := by decide +kernel
theorem dX3_readsUses_107 : decode cX3_readsUses 107 = .ok (.ireturn, 1) := by decide +kernel
theorem dX3_readsNumber_0 : decode cX3_readsNumber 0 = .ok (.aload_n 0, 1) := by decide +kernel
theorem dX3_readsNumber_1 : decode cX3_readsNumber 1 = .ok (.invokevirtual 36, 3) := by decide +kernel
theorem dX3_readsNumber_4 : decode cX3_readsNumber 4 = .ok (.aload_n 0, 1) := by decide +kernel
theorem dX3_readsNumber_5 : decode cX3_readsNumber 5 = .ok (.getfield 25, 3) := by decide +kernel
theorem dX3_readsNumber_8 : decode cX3_readsNumber 8 = .ok (.iconst 4, 1) := by decide +kernel
theorem dX3_readsNumber_9 : decode cX3_readsNumber 9 = .ok (.if_icmp .ne 23, 3) := by decide +kernel
theorem dX3_readsNumber_12 : decode cX3_readsNumber 12 = .ok (.aload_n 0, 1) := by decide +kernel
theorem dX3_readsNumber_13 : decode cX3_readsNumber 13 = .ok (.getfield 28, 3) := by decide +kernel
theorem dX3_readsNumber_16 : decode cX3_readsNumber 16 = .ok (.iload_n 1, 1) := by decide +kernel
theorem dX3_readsNumber_17 : decode cX3_readsNumber 17 = .ok (.if_icmp .lt 15, 3) := by decide +kernel
theorem dX3_readsNumber_20 : decode cX3_readsNumber 20 = .ok (.aload_n 0, 1) := by decide +kernel
theorem dX3_readsNumber_21 : decode cX3_readsNumber 21 = .ok (.getfield 28, 3) := by decide +kernel
theorem dX3_readsNumber_24 : decode cX3_readsNumber 24 = .ok (.iload_n 2, 1) := by decide +kernel
theorem dX3_readsNumber_25 : decode cX3_readsNumber 25 = .ok (.if_icmp .gt 7, 3) := by decide +kernel
theorem dX3_readsNumber_28 : decode cX3_readsNumber 28 = .ok (.iconst 1, 1) := by decide +kernel
theorem dX3_readsNumber_29 : decode cX3_readsNumber 29 = .ok (.goto 4, 3) := by decide +kernel
theorem dX3_readsNumber_32 : decode cX3_readsNumber 32 = .ok (.iconst 0, 1) := by decide +kernel
theorem dX3_readsNumber_33 : decode cX3_readsNumber 33 = .ok (.ireturn, 1) := by decide +kernel
theorem dX3_next_0 : decode cX3_next 0 = .ok (.aload_n 0, 1) := by decide +kernel
theorem dX3_next_1 : decode cX3_next 1 = .ok (.getfield 19, 3) := by decide +kernel
theorem dX3_next_4 : decode cX3_next 4 = .ok (.aload_n 0, 1) := by decide +kernel
theorem dX3_next_5 : decode cX3_next 5 = .ok (.getfield 15, 3) := by decide +kernel
theorem dX3_next_8 : decode cX3_next 8 = .ok (.if_icmp .ge 30, 3) := by decide +kernel
theorem dX3_next_11 : decode cX3_next 11 = .ok (.aload_n 0, 1) := by decide +kernel
theorem dX3_next_12 : decode cX3_next 12 = .ok (.getfield 11, 3) := by decide +kernel
theorem dX3_next_15 : decode cX3_next 15 = .ok (.aload_n 0, 1) := by decide +kernel
theorem dX3_next_16 : decode cX3_next 16 = .ok (.getfield 19, 3) := by decide +kernel
theorem dX3_next_19 : decode cX3_next 19 = .ok (.baload, 1) := by decide +kernel
theorem dX3_next_20 : decode cX3_next 20 = .ok (.bipush 32, 2) := by decide +kernel
theorem dX3_next_22 : decode cX3_next 22 = .ok (.if_icmp .ne 16, 3) := by decide +kernel
theorem dX3_next_25 : decode cX3_next 25 = .ok (.aload_n 0, 1) := by decide +kernel
theorem dX3_next_26 : decode cX3_next 26 = .ok (.dup, 1) := by decide +kernel
theorem dX3_next_27 : decode cX3_next 27 = .ok (.getfield 19, 3) := by decide +kernel
theorem dX3_next_30 : decode cX3_next 30 = .ok (.iconst 1, 1) := by decide +kernel
theorem dX3_next_31 : decode cX3_next 31 = .ok (.iadd, 1) := by decide +kernel
theorem dX3_next_32 : decode cX3_next 32 = .ok (.putfield 19, 3) := by decide +kernel
theorem dX3_next_35 : decode cX3_next 35 = .ok (.goto (-35), 3) := by decide +kernel
theorem dX3_next_38 : decode cX3_next 38 = .ok (.aload_n 0, 1) := by decide +kernel
theorem dX3_next_39 : decode cX3_next 39 = .ok (.aload_n 0, 1) := by decide +kernel
theorem dX3_next_40 : decode cX3_next 40 = .ok (.getfield 19, 3) := by decide +kernel
theorem dX3_next_43 : decode cX3_next 43 = .ok (.putfield 22, 3) := by decide +kernel
theorem dX3_next_46 : decode cX3_next 46 = .ok (.aload_n 0, 1) := by decide +kernel
theorem dX3_next_47 : decode cX3_next 47 = .ok (.iconst 0, 1) := by decide +kernel
theorem dX3_next_48 : decode cX3_next 48 = .ok (.putfield 28, 3) := by decide +kernel
theorem dX3_next_51 : decode cX3_next 51 = .ok (.aload_n 0, 1) := by decide +kernel
theorem dX3_next_52 : decode cX3_next 52 = .ok (.getfield 19, 3) := by decide +kernel
theorem dX3_next_55 : decode cX3_next 55 = .ok (.aload_n 0, 1) := by decide +kernel
theorem dX3_next_56 : decode cX3_next 56 = .ok (.getfield 15, 3) := by decide +kernel
theorem dX3_next_59 : decode cX3_next 59 = .ok (.if_icmp .lt 9, 3) := by decide +kernel
theorem dX3_next_62 : decode cX3_next 62 = .ok (.aload_n 0, 1) := by decide +kernel
theorem dX3_next_63 : decode cX3_next 63 = .ok (.iconst 0, 1) := by decide +kernel
theorem dX3_next_64 : decode cX3_next 64 = .ok (.putfield 25, 3) := by decide +kernel
theorem dX3_next_67 : decode cX3_next 67 = .ok (.return_, 1) := by decide +kernel
theorem dX3_next_68 : decode cX3_next 68 = .ok (.aload_n 0, 1) := by decide +kernel
theorem dX3_next_69 : decode cX3_next 69 = .ok (.getfield 11, 3) := by decide +kernel
theorem dX3_next_72 : decode cX3_next 72 = .ok (.aload_n 0, 1) := by decide +kernel
theorem dX3_next_73 : decode cX3_next 73 = .ok (.getfield 19, 3) := by decide +kernel
theorem dX3_next_76 : decode cX3_next 76 = .ok (.baload, 1) := by decide +kernel
theorem dX3_next_77 : decode cX3_next 77 = .ok (.istore_n 1, 1) := by decide +kernel
theorem dX3_next_78 : decode cX3_next 78 = .ok (.iload_n 1, 1) := by decide +kernel
theorem dX3_next_79 : decode cX3_next 79 = .ok (.invokestatic 72, 3) := by decide +kernel
theorem dX3_next_82 : decode cX3_next 82 = .ok (.ifCond .eq 10, 3) := by decide +kernel
theorem dX3_next_85 : decode cX3_next 85 = .ok (.aload_n 0, 1) := by decide +kernel
theorem dX3_next_86 : decode cX3_next 86 = .ok (.invokevirtual 76, 3) := by decide +kernel
theorem dX3_next_89 : decode cX3_next 89 = .ok (.goto 22, 3) := by decide +kernel
theorem dX3_next_92 : decode cX3_next 92 = .ok (.iload_n 1, 1) := by decide +kernel
theorem dX3_next_93 : decode cX3_next 93 = .ok (.invokestatic 79, 3) := by decide +kernel
theorem dX3_next_96 : decode cX3_next 96 = .ok (.ifCond .eq 10, 3) := by decide +kernel
theorem dX3_next_99 : decode cX3_next 99 = .ok (.aload_n 0, 1) := by decide +kernel
theorem dX3_next_100 : decode cX3_next 100 = .ok (.invokevirtual 82, 3) := by decide +kernel
theorem dX3_next_103 : decode cX3_next 103 = .ok (.goto 8, 3) := by decide +kernel
theorem dX3_next_106 : decode cX3_next 106 = .ok (.aload_n 0, 1) := by decide +kernel
theorem dX3_next_107 : decode cX3_next 107 = .ok (.iload_n 1, 1) := by decide +kernel
theorem dX3_next_108 : decode cX3_next 108 = .ok (.invokevirtual 85, 3) := by decide +kernel
theorem dX3_next_111 : decode cX3_next 111 = .ok (.return_, 1) := by decide +kernel
theorem dX3_readSign_0 : decode cX3_readSign 0 = .ok (.aload_n 0, 1) := by decide +kernel
theorem dX3_readSign_1 : decode cX3_readSign 1 = .ok (.dup, 1) := by decide +kernel
theorem dX3_readSign_2 : decode cX3_readSign 2 = .ok (.getfield 19, 3) := by decide +kernel
theorem dX3_readSign_5 : decode cX3_readSign 5 = .ok (.iconst 1, 1) := by decide +kernel
theorem dX3_readSign_6 : decode cX3_readSign 6 = .ok (.iadd, 1) := by decide +kernel
theorem dX3_readSign_7 : decode cX3_readSign 7 = .ok (.putfield 19, 3) := by decide +kernel
theorem dX3_readSign_10 : decode cX3_readSign 10 = .ok (.aload_n 0, 1) := by decide +kernel
theorem dX3_readSign_11 : decode cX3_readSign 11 = .ok (.iconst 1, 1) := by decide +kernel
theorem dX3_readSign_12 : decode cX3_readSign 12 = .ok (.putfield 25, 3) := by decide +kernel
theorem dX3_readSign_15 : decode cX3_readSign 15 = .ok (.iload_n 1, 1) := by decide +kernel
theorem dX3_readSign_16 : decode cX3_readSign 16 = .ok (.bipush 59, 2) := by decide +kernel
theorem dX3_readSign_18 : decode cX3_readSign 18 = .ok (.if_icmp .ne 8, 3) := by decide +kernel
theorem dX3_readSign_21 : decode cX3_readSign 21 = .ok (.aload_n 0, 1) := by decide +kernel
theorem dX3_readSign_22 : decode cX3_readSign 22 = .ok (.iconst 2, 1) := by decide +kernel
theorem dX3_readSign_23 : decode cX3_readSign 23 = .ok (.putfield 25, 3) := by decide +kernel
theorem dX3_readSign_26 : decode cX3_readSign 26 = .ok (.iload_n 1, 1) := by decide +kernel
theorem dX3_readSign_27 : decode cX3_readSign 27 = .ok (.bipush 65, 2) := by decide +kernel
theorem dX3_readSign_29 : decode cX3_readSign 29 = .ok (.if_icmp .lt 22, 3) := by decide +kernel
theorem dX3_readSign_32 : decode cX3_readSign 32 = .ok (.iload_n 1, 1) := by decide +kernel
theorem dX3_readSign_33 : decode cX3_readSign 33 = .ok (.bipush 70, 2) := by decide +kernel
theorem dX3_readSign_35 : decode cX3_readSign 35 = .ok (.if_icmp .ge 16, 3) := by decide +kernel
theorem dX3_readSign_38 : decode cX3_readSign 38 = .ok (.aload_n 0, 1) := by decide +kernel
theorem dX3_readSign_39 : decode cX3_readSign 39 = .ok (.iconst 3, 1) := by decide +kernel
theorem dX3_readSign_40 : decode cX3_readSign 40 = .ok (.putfield 25, 3) := by decide +kernel
theorem dX3_readSign_43 : decode cX3_readSign 43 = .ok (.aload_n 0, 1) := by decide +kernel
theorem dX3_readSign_44 : decode cX3_readSign 44 = .ok (.iload_n 1, 1) := by decide +kernel
theorem dX3_readSign_45 : decode cX3_readSign 45 = .ok (.bipush 65, 2) := by decide +kernel
theorem dX3_readSign_47 : decode cX3_readSign 47 = .ok (.isub, 1) := by decide +kernel
theorem dX3_readSign_48 : decode cX3_readSign 48 = .ok (.putfield 28, 3) := by decide +kernel
theorem dX3_readSign_51 : decode cX3_readSign 51 = .ok (.return_, 1) := by decide +kernel
theorem dX3_readDigits_0 : decode cX3_readDigits 0 = .ok (.aload_n 0, 1) := by decide +kernel
theorem dX3_readDigits_1 : decode cX3_readDigits 1 = .ok (.getfield 19, 3) := by decide +kernel
theorem dX3_readDigits_4 : decode cX3_readDigits 4 = .ok (.aload_n 0, 1) := by decide +kernel
theorem dX3_readDigits_5 : decode cX3_readDigits 5 = .ok (.getfield 15, 3) := by decide +kernel
theorem dX3_readDigits_8 : decode cX3_readDigits 8 = .ok (.if_icmp .ge 65, 3) := by decide +kernel
theorem dX3_readDigits_11 : decode cX3_readDigits 11 = .ok (.aload_n 0, 1) := by decide +kernel
theorem dX3_readDigits_12 : decode cX3_readDigits 12 = .ok (.getfield 11, 3) := by decide +kernel
theorem dX3_readDigits_15 : decode cX3_readDigits 15 = .ok (.aload_n 0, 1) := by decide +kernel
theorem dX3_readDigits_16 : decode cX3_readDigits 16 = .ok (.getfield 19, 3) := by decide +kernel
theorem dX3_readDigits_19 : decode cX3_readDigits 19 = .ok (.baload, 1) := by decide +kernel
theorem dX3_readDigits_20 : decode cX3_readDigits 20 = .ok (.invokestatic 72, 3) := by decide +kernel
theorem dX3_readDigits_23 : decode cX3_readDigits 23 = .ok (.ifCond .eq 50, 3) := by decide +kernel
theorem dX3_readDigits_26 : decode cX3_readDigits 26 = .ok (.aload_n 0, 1) := by decide +kernel
theorem dX3_readDigits_27 : decode cX3_readDigits 27 = .ok (.getfield 28, 3) := by decide +kernel
theorem dX3_readDigits_30 : decode cX3_readDigits 30 = .ok (.sipush 999, 3) := by decide +kernel
theorem dX3_readDigits_33 : decode cX3_readDigits 33 = .ok (.if_icmp .gt 27, 3) := by decide +kernel
theorem dX3_readDigits_36 : decode cX3_readDigits 36 = .ok (.aload_n 0, 1) := by decide +kernel
theorem dX3_readDigits_37 : decode cX3_readDigits 37 = .ok (.aload_n 0, 1) := by decide +kernel
theorem dX3_readDigits_38 : decode cX3_readDigits 38 = .ok (.getfield 28, 3) := by decide +kernel
theorem dX3_readDigits_41 : decode cX3_readDigits 41 = .ok (.bipush 10, 2) := by decide +kernel
theorem dX3_readDigits_43 : decode cX3_readDigits 43 = .ok (.imul, 1) := by decide +kernel
theorem dX3_readDigits_44 : decode cX3_readDigits 44 = .ok (.aload_n 0, 1) := by decide +kernel
theorem dX3_readDigits_45 : decode cX3_readDigits 45 = .ok (.getfield 11, 3) := by decide +kernel
theorem dX3_readDigits_48 : decode cX3_readDigits 48 = .ok (.aload_n 0, 1) := by decide +kernel
theorem dX3_readDigits_49 : decode cX3_readDigits 49 = .ok (.getfield 19, 3) := by decide +kernel
theorem dX3_readDigits_52 : decode cX3_readDigits 52 = .ok (.baload, 1) := by decide +kernel
theorem dX3_readDigits_53 : decode cX3_readDigits 53 = .ok (.iadd, 1) := by decide +kernel
theorem dX3_readDigits_54 : decode cX3_readDigits 54 = .ok (.bipush 48, 2) := by decide +kernel
theorem dX3_readDigits_56 : decode cX3_readDigits 56 = .ok (.isub, 1) := by decide +kernel
theorem dX3_readDigits_57 : decode cX3_readDigits 57 = .ok (.putfield 28, 3) := by decide +kernel
theorem dX3_readDigits_60 : decode cX3_readDigits 60 = .ok (.aload_n 0, 1) := by decide +kernel
theorem dX3_readDigits_61 : decode cX3_readDigits 61 = .ok (.dup, 1) := by decide +kernel
theorem dX3_readDigits_62 : decode cX3_readDigits 62 = .ok (.getfield 19, 3) := by decide +kernel
theorem dX3_readDigits_65 : decode cX3_readDigits 65 = .ok (.iconst 1, 1) := by decide +kernel
theorem dX3_readDigits_66 : decode cX3_readDigits 66 = .ok (.iadd, 1) := by decide +kernel
theorem dX3_readDigits_67 : decode cX3_readDigits 67 = .ok (.putfield 19, 3) := by decide +kernel
theorem dX3_readDigits_70 : decode cX3_readDigits 70 = .ok (.goto (-70), 3) := by decide +kernel
theorem dX3_readDigits_73 : decode cX3_readDigits 73 = .ok (.aload_n 0, 1) := by decide +kernel
theorem dX3_readDigits_74 : decode cX3_readDigits 74 = .ok (.getfield 11, 3) := by decide +kernel
theorem dX3_readDigits_77 : decode cX3_readDigits 77 = .ok (.aload_n 0, 1) := by decide +kernel
theorem dX3_readDigits_78 : decode cX3_readDigits 78 = .ok (.getfield 22, 3) := by decide +kernel
theorem dX3_readDigits_81 : decode cX3_readDigits 81 = .ok (.baload, 1) := by decide +kernel
theorem dX3_readDigits_82 : decode cX3_readDigits 82 = .ok (.bipush 48, 2) := by decide +kernel
theorem dX3_readDigits_84 : decode cX3_readDigits 84 = .ok (.if_icmp .ne 20, 3) := by decide +kernel
theorem dX3_readDigits_87 : decode cX3_readDigits 87 = .ok (.aload_n 0, 1) := by decide +kernel
theorem dX3_readDigits_88 : decode cX3_readDigits 88 = .ok (.getfield 19, 3) := by decide +kernel
theorem dX3_readDigits_91 : decode cX3_readDigits 91 = .ok (.aload_n 0, 1) := by decide +kernel
theorem dX3_readDigits_92 : decode cX3_readDigits 92 = .ok (.getfield 22, 3) := by decide +kernel
theorem dX3_readDigits_95 : decode cX3_readDigits 95 = .ok (.isub, 1) := by decide +kernel
theorem dX3_readDigits_96 : decode cX3_readDigits 96 = .ok (.iconst 1, 1) := by decide +kernel
theorem dX3_readDigits_97 : decode cX3_readDigits 97 = .ok (.if_icmp .le 7, 3) := by decide +kernel
theorem dX3_readDigits_100 : decode cX3_readDigits 100 = .ok (.iconst 1, 1) := by decide +kernel
theorem dX3_readDigits_101 : decode cX3_readDigits 101 = .ok (.goto 4, 3) := by decide +kernel
theorem dX3_readDigits_104 : decode cX3_readDigits 104 = .ok (.iconst 0, 1) := by decide +kernel
theorem dX3_readDigits_105 : decode cX3_readDigits 105 = .ok (.istore_n 1, 1) := by decide +kernel
theorem dX3_readDigits_106 : decode cX3_readDigits 106 = .ok (.aload_n 0, 1) := by decide +kernel
theorem dX3_readDigits_107 : decode cX3_readDigits 107 = .ok (.iload_n 1, 1) := by decide +kernel
theorem dX3_readDigits_108 : decode cX3_readDigits 108 = .ok (.ifCond .ne 13, 3) := by decide +kernel
theorem dX3_readDigits_111 : decode cX3_readDigits 111 = .ok (.aload_n 0, 1) := by decide +kernel
theorem dX3_readDigits_112 : decode cX3_readDigits 112 = .ok (.getfield 28, 3) := by decide +kernel
theorem dX3_readDigits_115 : decode cX3_readDigits 115 = .ok (.sipush 999, 3) := by decide +kernel
theorem dX3_readDigits_118 : decode cX3_readDigits 118 = .ok (.if_icmp .le 7, 3) := by decide +kernel
theorem dX3_readDigits_121 : decode cX3_readDigits 121 = .ok (.iconst 1, 1) := by decide +kernel
theorem dX3_readDigits_122 : decode cX3_readDigits 122 = .ok (.goto 4, 3) := by decide +kernel
theorem dX3_readDigits_125 : decode cX3_readDigits 125 = .ok (.iconst 4, 1) := by decide +kernel
theorem dX3_readDigits_126 : decode cX3_readDigits 126 = .ok (.putfield 25, 3) := by decide +kernel
theorem dX3_readDigits_129 : decode cX3_readDigits 129 = .ok (.return_, 1) := by decide +kernel
theorem dX3_readWord_0 : decode cX3_readWord 0 = .ok (.aload_n 0, 1) := by decide +kernel
theorem dX3_readWord_1 : decode cX3_readWord 1 = .ok (.getfield 19, 3) := by decide +kernel
theorem dX3_readWord_4 : decode cX3_readWord 4 = .ok (.aload_n 0, 1) := by decide +kernel
theorem dX3_readWord_5 : decode cX3_readWord 5 = .ok (.getfield 15, 3) := by decide +kernel
theorem dX3_readWord_8 : decode cX3_readWord 8 = .ok (.if_icmp .ge 31, 3) := by decide +kernel
theorem dX3_readWord_11 : decode cX3_readWord 11 = .ok (.aload_n 0, 1) := by decide +kernel
theorem dX3_readWord_12 : decode cX3_readWord 12 = .ok (.getfield 11, 3) := by decide +kernel
theorem dX3_readWord_15 : decode cX3_readWord 15 = .ok (.aload_n 0, 1) := by decide +kernel
theorem dX3_readWord_16 : decode cX3_readWord 16 = .ok (.getfield 19, 3) := by decide +kernel
theorem dX3_readWord_19 : decode cX3_readWord 19 = .ok (.baload, 1) := by decide +kernel
theorem dX3_readWord_20 : decode cX3_readWord 20 = .ok (.invokestatic 79, 3) := by decide +kernel
theorem dX3_readWord_23 : decode cX3_readWord 23 = .ok (.ifCond .eq 16, 3) := by decide +kernel
theorem dX3_readWord_26 : decode cX3_readWord 26 = .ok (.aload_n 0, 1) := by decide +kernel
theorem dX3_readWord_27 : decode cX3_readWord 27 = .ok (.dup, 1) := by decide +kernel
theorem dX3_readWord_28 : decode cX3_readWord 28 = .ok (.getfield 19, 3) := by decide +kernel
theorem dX3_readWord_31 : decode cX3_readWord 31 = .ok (.iconst 1, 1) := by decide +kernel
theorem dX3_readWord_32 : decode cX3_readWord 32 = .ok (.iadd, 1) := by decide +kernel
theorem dX3_readWord_33 : decode cX3_readWord 33 = .ok (.putfield 19, 3) := by decide +kernel
theorem dX3_readWord_36 : decode cX3_readWord 36 = .ok (.goto (-36), 3) := by decide +kernel
theorem dX3_readWord_39 : decode cX3_readWord 39 = .ok (.aload_n 0, 1) := by decide +kernel
theorem dX3_readWord_40 : decode cX3_readWord 40 = .ok (.iconst 1, 1) := by decide +kernel
theorem dX3_readWord_41 : decode cX3_readWord 41 = .ok (.putfield 25, 3) := by decide +kernel
theorem dX3_readWord_44 : decode cX3_readWord 44 = .ok (.aload_n 0, 1) := by decide +kernel
theorem dX3_readWord_45 : decode cX3_readWord 45 = .ok (.ldc 89, 2) := by decide +kernel
theorem dX3_readWord_47 : decode cX3_readWord 47 = .ok (.invokevirtual 91, 3) := by decide +kernel
theorem dX3_readWord_50 : decode cX3_readWord 50 = .ok (.ifCond .eq 11, 3) := by decide +kernel
theorem dX3_readWord_53 : decode cX3_readWord 53 = .ok (.aload_n 0, 1) := by decide +kernel
theorem dX3_readWord_54 : decode cX3_readWord 54 = .ok (.iconst 5, 1) := by decide +kernel
theorem dX3_readWord_55 : decode cX3_readWord 55 = .ok (.putfield 25, 3) := by decide +kernel
theorem dX3_readWord_58 : decode cX3_readWord 58 = .ok (.goto 105, 3) := by decide +kernel
theorem dX3_readWord_61 : decode cX3_readWord 61 = .ok (.aload_n 0, 1) := by decide +kernel
theorem dX3_readWord_62 : decode cX3_readWord 62 = .ok (.ldc 95, 2) := by decide +kernel
theorem dX3_readWord_64 : decode cX3_readWord 64 = .ok (.invokevirtual 91, 3) := by decide +kernel
theorem dX3_readWord_67 : decode cX3_readWord 67 = .ok (.ifCond .eq 12, 3) := by decide +kernel
theorem dX3_readWord_70 : decode cX3_readWord 70 = .ok (.aload_n 0, 1) := by decide +kernel
theorem dX3_readWord_71 : decode cX3_readWord 71 = .ok (.bipush 6, 2) := by decide +kernel
theorem dX3_readWord_73 : decode cX3_readWord 73 = .ok (.putfield 25, 3) := by decide +kernel
theorem dX3_readWord_76 : decode cX3_readWord 76 = .ok (.goto 87, 3) := by decide +kernel
theorem dX3_readWord_79 : decode cX3_readWord 79 = .ok (.aload_n 0, 1) := by decide +kernel
theorem dX3_readWord_80 : decode cX3_readWord 80 = .ok (.ldc 97, 2) := by decide +kernel
theorem dX3_readWord_82 : decode cX3_readWord 82 = .ok (.invokevirtual 91, 3) := by decide +kernel
theorem dX3_readWord_85 : decode cX3_readWord 85 = .ok (.ifCond .eq 12, 3) := by decide +kernel
theorem dX3_readWord_88 : decode cX3_readWord 88 = .ok (.aload_n 0, 1) := by decide +kernel
theorem dX3_readWord_89 : decode cX3_readWord 89 = .ok (.bipush 7, 2) := by decide +kernel
theorem dX3_readWord_91 : decode cX3_readWord 91 = .ok (.putfield 25, 3) := by decide +kernel
theorem dX3_readWord_94 : decode cX3_readWord 94 = .ok (.goto 69, 3) := by decide +kernel
theorem dX3_readWord_97 : decode cX3_readWord 97 = .ok (.aload_n 0, 1) := by decide +kernel
theorem dX3_readWord_98 : decode cX3_readWord 98 = .ok (.ldc 99, 2) := by decide +kernel
theorem dX3_readWord_100 : decode cX3_readWord 100 = .ok (.invokevirtual 91, 3) := by decide +kernel
theorem dX3_readWord_103 : decode cX3_readWord 103 = .ok (.ifCond .eq 12, 3) := by decide +kernel
theorem dX3_readWord_106 : decode cX3_readWord 106 = .ok (.aload_n 0, 1) := by decide +kernel
theorem dX3_readWord_107 : decode cX3_readWord 107 = .ok (.bipush 8, 2) := by decide +kernel
theorem dX3_readWord_109 : decode cX3_readWord 109 = .ok (.putfield 25, 3) := by decide +kernel
theorem dX3_readWord_112 : decode cX3_readWord 112 = .ok (.goto 51, 3) := by decide +kernel
theorem dX3_readWord_115 : decode cX3_readWord 115 = .ok (.aload_n 0, 1) := by decide +kernel
theorem dX3_readWord_116 : decode cX3_readWord 116 = .ok (.ldc 101, 2) := by decide +kernel
theorem dX3_readWord_118 : decode cX3_readWord 118 = .ok (.invokevirtual 91, 3) := by decide +kernel
theorem dX3_readWord_121 : decode cX3_readWord 121 = .ok (.ifCond .eq 11, 3) := by decide +kernel
theorem dX3_readWord_124 : decode cX3_readWord 124 = .ok (.aload_n 0, 1) := by decide +kernel
theorem dX3_readWord_125 : decode cX3_readWord 125 = .ok (.iconst 0, 1) := by decide +kernel
theorem dX3_readWord_126 : decode cX3_readWord 126 = .ok (.invokevirtual 103, 3) := by decide +kernel
theorem dX3_readWord_129 : decode cX3_readWord 129 = .ok (.goto 34, 3) := by decide +kernel
theorem dX3_readWord_132 : decode cX3_readWord 132 = .ok (.aload_n 0, 1) := by decide +kernel
theorem dX3_readWord_133 : decode cX3_readWord 133 = .ok (.ldc 106, 2) := by decide +kernel
theorem dX3_readWord_135 : decode cX3_readWord 135 = .ok (.invokevirtual 91, 3) := by decide +kernel
theorem dX3_readWord_138 : decode cX3_readWord 138 = .ok (.ifCond .eq 11, 3) := by decide +kernel
theorem dX3_readWord_141 : decode cX3_readWord 141 = .ok (.aload_n 0, 1) := by decide +kernel
theorem dX3_readWord_142 : decode cX3_readWord 142 = .ok (.iconst 1, 1) := by decide +kernel
theorem dX3_readWord_143 : decode cX3_readWord 143 = .ok (.invokevirtual 103, 3) := by decide +kernel
theorem dX3_readWord_146 : decode cX3_readWord 146 = .ok (.goto 17, 3) := by decide +kernel
theorem dX3_readWord_149 : decode cX3_readWord 149 = .ok (.aload_n 0, 1) := by decide +kernel
theorem dX3_readWord_150 : decode cX3_readWord 150 = .ok (.ldc 108, 2) := by decide +kernel
theorem dX3_readWord_152 : decode cX3_readWord 152 = .ok (.invokevirtual 91, 3) := by decide +kernel
theorem dX3_readWord_155 : decode cX3_readWord 155 = .ok (.ifCond .eq 8, 3) := by decide +kernel
theorem dX3_readWord_158 : decode cX3_readWord 158 = .ok (.aload_n 0, 1) := by decide +kernel
theorem dX3_readWord_159 : decode cX3_readWord 159 = .ok (.iconst 2, 1) := by decide +kernel
theorem dX3_readWord_160 : decode cX3_readWord 160 = .ok (.invokevirtual 103, 3) := by decide +kernel
theorem dX3_readWord_163 : decode cX3_readWord 163 = .ok (.return_, 1) := by decide +kernel
theorem dX3_setKind_0 : decode cX3_setKind 0 = .ok (.aload_n 0, 1) := by decide +kernel
theorem dX3_setKind_1 : decode cX3_setKind 1 = .ok (.bipush 9, 2) := by decide +kernel
theorem dX3_setKind_3 : decode cX3_setKind 3 = .ok (.putfield 25, 3) := by decide +kernel
theorem dX3_setKind_6 : decode cX3_setKind 6 = .ok (.aload_n 0, 1) := by decide +kernel
theorem dX3_setKind_7 : decode cX3_setKind 7 = .ok (.iload_n 1, 1) := by decide +kernel
theorem dX3_setKind_8 : decode cX3_setKind 8 = .ok (.putfield 28, 3) := by decide +kernel
theorem dX3_setKind_11 : decode cX3_setKind 11 = .ok (.return_, 1) := by decide +kernel
theorem dX3_isWord_0 : decode cX3_isWord 0 = .ok (.aload_n 0, 1) := by decide +kernel
theorem dX3_isWord_1 : decode cX3_isWord 1 = .ok (.getfield 19, 3) := by decide +kernel
theorem dX3_isWord_4 : decode cX3_isWord 4 = .ok (.aload_n 0, 1) := by decide +kernel
theorem dX3_isWord_5 : decode cX3_isWord 5 = .ok (.getfield 22, 3) := by decide +kernel
theorem dX3_isWord_8 : decode cX3_isWord 8 = .ok (.isub, 1) := by decide +kernel
theorem dX3_isWord_9 : decode cX3_isWord 9 = .ok (.aload_n 1, 1) := by decide +kernel
theorem dX3_isWord_10 : decode cX3_isWord 10 = .ok (.invokevirtual 110, 3) := by decide +kernel
theorem dX3_isWord_13 : decode cX3_isWord 13 = .ok (.if_icmp .eq 5, 3) := by decide +kernel
theorem dX3_isWord_16 : decode cX3_isWord 16 = .ok (.iconst 0, 1) := by decide +kernel
theorem dX3_isWord_17 : decode cX3_isWord 17 = .ok (.ireturn, 1) := by decide +kernel
theorem dX3_isWord_18 : decode cX3_isWord 18 = .ok (.iconst 0, 1) := by decide +kernel
theorem dX3_isWord_19 : decode cX3_isWord 19 = .ok (.istore_n 2, 1) := by decide +kernel
theorem dX3_isWord_20 : decode cX3_isWord 20 = .ok (.iload_n 2, 1) := by decide +kernel
theorem dX3_isWord_21 : decode cX3_isWord 21 = .ok (.aload_n 1, 1) := by decide +kernel
theorem dX3_isWord_22 : decode cX3_isWord 22 = .ok (.invokevirtual 110, 3) := by decide +kernel
theorem dX3_isWord_25 : decode cX3_isWord 25 = .ok (.if_icmp .ge 30, 3) := by decide +kernel
theorem dX3_isWord_28 : decode cX3_isWord 28 = .ok (.aload_n 0, 1) := by decide +kernel
theorem dX3_isWord_29 : decode cX3_isWord 29 = .ok (.getfield 11, 3) := by decide +kernel
theorem dX3_isWord_32 : decode cX3_isWord 32 = .ok (.aload_n 0, 1) := by decide +kernel
theorem dX3_isWord_33 : decode cX3_isWord 33 = .ok (.getfield 22, 3) := by decide +kernel
theorem dX3_isWord_36 : decode cX3_isWord 36 = .ok (.iload_n 2, 1) := by decide +kernel
theorem dX3_isWord_37 : decode cX3_isWord 37 = .ok (.iadd, 1) := by decide +kernel
theorem dX3_isWord_38 : decode cX3_isWord 38 = .ok (.baload, 1) := by decide +kernel
theorem dX3_isWord_39 : decode cX3_isWord 39 = .ok (.aload_n 1, 1) := by decide +kernel
theorem dX3_isWord_40 : decode cX3_isWord 40 = .ok (.iload_n 2, 1) := by decide +kernel
theorem dX3_isWord_41 : decode cX3_isWord 41 = .ok (.invokevirtual 115, 3) := by decide +kernel
theorem dX3_isWord_44 : decode cX3_isWord 44 = .ok (.if_icmp .eq 5, 3) := by decide +kernel
theorem dX3_isWord_47 : decode cX3_isWord 47 = .ok (.iconst 0, 1) := by decide +kernel
theorem dX3_isWord_48 : decode cX3_isWord 48 = .ok (.ireturn, 1) := by decide +kernel
theorem dX3_isWord_49 : decode cX3_isWord 49 = .ok (.iinc 2 1, 3) := by decide +kernel
theorem dX3_isWord_52 : decode cX3_isWord 52 = .ok (.goto (-32), 3) := by decide +kernel
theorem dX3_isWord_55 : decode cX3_isWord 55 = .ok (.iconst 1, 1) := by decide +kernel
theorem dX3_isWord_56 : decode cX3_isWord 56 = .ok (.ireturn, 1) := by decide +kernel
theorem dX3_isDigit_0 : decode cX3_isDigit 0 = .ok (.iload_n 0, 1) := by decide +kernel
theorem dX3_isDigit_1 : decode cX3_isDigit 1 = .ok (.bipush 48, 2) := by decide +kernel
theorem dX3_isDigit_3 : decode cX3_isDigit 3 = .ok (.if_icmp .lt 13, 3) := by decide +kernel
theorem dX3_isDigit_6 : decode cX3_isDigit 6 = .ok (.iload_n 0, 1) := by decide +kernel
theorem dX3_isDigit_7 : decode cX3_isDigit 7 = .ok (.bipush 57, 2) := by decide +kernel
theorem dX3_isDigit_9 : decode cX3_isDigit 9 = .ok (.if_icmp .gt 7, 3) := by decide +kernel
theorem dX3_isDigit_12 : decode cX3_isDigit 12 = .ok (.iconst 1, 1) := by decide +kernel
theorem dX3_isDigit_13 : decode cX3_isDigit 13 = .ok (.goto 4, 3) := by decide +kernel
theorem dX3_isDigit_16 : decode cX3_isDigit 16 = .ok (.iconst 0, 1) := by decide +kernel
theorem dX3_isDigit_17 : decode cX3_isDigit 17 = .ok (.ireturn, 1) := by decide +kernel
theorem dX3_isSmall_0 : decode cX3_isSmall 0 = .ok (.iload_n 0, 1) := by decide +kernel
theorem dX3_isSmall_1 : decode cX3_isSmall 1 = .ok (.bipush 97, 2) := by decide +kernel
theorem dX3_isSmall_3 : decode cX3_isSmall 3 = .ok (.if_icmp .lt 13, 3) := by decide +kernel
theorem dX3_isSmall_6 : decode cX3_isSmall 6 = .ok (.iload_n 0, 1) := by decide +kernel
theorem dX3_isSmall_7 : decode cX3_isSmall 7 = .ok (.bipush 122, 2) := by decide +kernel
theorem dX3_isSmall_9 : decode cX3_isSmall 9 = .ok (.if_icmp .gt 7, 3) := by decide +kernel
theorem dX3_isSmall_12 : decode cX3_isSmall 12 = .ok (.iconst 1, 1) := by decide +kernel
theorem dX3_isSmall_13 : decode cX3_isSmall 13 = .ok (.goto 4, 3) := by decide +kernel
theorem dX3_isSmall_16 : decode cX3_isSmall 16 = .ok (.iconst 0, 1) := by decide +kernel
theorem dX3_isSmall_17 : decode cX3_isSmall 17 = .ok (.ireturn, 1) := by decide +kernel
theorem dX4_init_0 : decode cX4_init 0 = .ok (.aload_n 0, 1) := by decide +kernel
theorem dX4_init_1 : decode cX4_init 1 = .ok (.invokespecial 3, 3) := by decide +kernel
theorem dX4_init_4 : decode cX4_init 4 = .ok (.aload_n 0, 1) := by decide +kernel
theorem dX4_init_5 : decode cX4_init 5 = .ok (.iconst 5, 1) := by decide +kernel
theorem dX4_init_6 : decode cX4_init 6 = .ok (.newarray .boolean, 2) := by decide +kernel
theorem dX4_init_8 : decode cX4_init 8 = .ok (.putfield 9, 3) := by decide +kernel
theorem dX4_init_11 : decode cX4_init 11 = .ok (.aload_n 0, 1) := by decide +kernel
theorem dX4_init_12 : decode cX4_init 12 = .ok (.iconst 5, 1) := by decide +kernel
theorem dX4_init_13 : decode cX4_init 13 = .ok (.newarray .boolean, 2) := by decide +kernel
theorem dX4_init_15 : decode cX4_init 15 = .ok (.putfield 15, 3) := by decide +kernel
theorem dX4_init_18 : decode cX4_init 18 = .ok (.aload_n 0, 1) := by decide +kernel
theorem dX4_init_19 : decode cX4_init 19 = .ok (.iconst 5, 1) := by decide +kernel
theorem dX4_init_20 : decode cX4_init 20 = .ok (.newarray .boolean, 2) := by decide +kernel
theorem dX4_init_22 : decode cX4_init 22 = .ok (.putfield 18, 3) := by decide +kernel
theorem dX4_init_25 : decode cX4_init 25 = .ok (.aload_n 0, 1) := by decide +kernel
theorem dX4_init_26 : decode cX4_init 26 = .ok (.iconst 5, 1) := by decide +kernel
theorem dX4_init_27 : decode cX4_init 27 = .ok (.newarray .int, 2) := by decide +kernel
theorem dX4_init_29 : decode cX4_init 29 = .ok (.putfield 21, 3) := by decide +kernel
theorem dX4_init_32 : decode cX4_init 32 = .ok (.aload_n 0, 1) := by decide +kernel
theorem dX4_init_33 : decode cX4_init 33 = .ok (.iconst 4, 1) := by decide +kernel
theorem dX4_init_34 : decode cX4_init 34 = .ok (.newarray .int, 2) := by decide +kernel
theorem dX4_init_36 : decode cX4_init 36 = .ok (.putfield 25, 3) := by decide +kernel
theorem dX4_init_39 : decode cX4_init 39 = .ok (.aload_n 0, 1) := by decide +kernel
theorem dX4_init_40 : decode cX4_init 40 = .ok (.iconst 4, 1) := by decide +kernel
theorem dX4_init_41 : decode cX4_init 41 = .ok (.newarray .int, 2) := by decide +kernel
theorem dX4_init_43 : decode cX4_init 43 = .ok (.putfield 28, 3) := by decide +kernel
theorem dX4_init_46 : decode cX4_init 46 = .ok (.aload_n 0, 1) := by decide +kernel
theorem dX4_init_47 : decode cX4_init 47 = .ok (.iconst 4, 1) := by decide +kernel
theorem dX4_init_48 : decode cX4_init 48 = .ok (.newarray .int, 2) := by decide +kernel
theorem dX4_init_50 : decode cX4_init 50 = .ok (.putfield 31, 3) := by decide +kernel
theorem dX4_init_53 : decode cX4_init 53 = .ok (.aload_n 0, 1) := by decide +kernel
theorem dX4_init_54 : decode cX4_init 54 = .ok (.iconst 4, 1) := by decide +kernel
theorem dX4_init_55 : decode cX4_init 55 = .ok (.newarray .boolean, 2) := by decide +kernel
theorem dX4_init_57 : decode cX4_init 57 = .ok (.putfield 34, 3) := by decide +kernel
theorem dX4_init_60 : decode cX4_init 60 = .ok (.aload_n 0, 1) := by decide +kernel
theorem dX4_init_61 : decode cX4_init 61 = .ok (.iconst 4, 1) := by decide +kernel
theorem dX4_init_62 : decode cX4_init 62 = .ok (.iconst 5, 1) := by decide +kernel
theorem dX4_init_63 : decode cX4_init 63 = .ok (.multianewarray 37 2, 4) := by decide +kernel
theorem dX4_init_67 : decode cX4_init 67 = .ok (.putfield 39, 3) := by decide +kernel
theorem dX4_init_70 : decode cX4_init 70 = .ok (.aload_n 0, 1) := by decide +kernel
theorem dX4_init_71 : decode cX4_init 71 = .ok (.iconst 0, 1) := by decide +kernel
theorem dX4_init_72 : decode cX4_init 72 = .ok (.putfield 42, 3) := by decide +kernel
theorem dX4_init_75 : decode cX4_init 75 = .ok (.return_, 1) := by decide +kernel
theorem dX4_empty_0 : decode cX4_empty 0 = .ok (.aload_n 0, 1) := by decide +kernel
theorem dX4_empty_1 : decode cX4_empty 1 = .ok (.iconst 0, 1) := by decide +kernel
theorem dX4_empty_2 : decode cX4_empty 2 = .ok (.putfield 42, 3) := by decide +kernel
theorem dX4_empty_5 : decode cX4_empty 5 = .ok (.iconst 0, 1) := by decide +kernel
theorem dX4_empty_6 : decode cX4_empty 6 = .ok (.istore_n 1, 1) := by decide +kernel
theorem dX4_empty_7 : decode cX4_empty 7 = .ok (.iload_n 1, 1) := by decide +kernel
theorem dX4_empty_8 : decode cX4_empty 8 = .ok (.iconst 5, 1) := by decide +kernel
theorem dX4_empty_9 : decode cX4_empty 9 = .ok (.if_icmp .ge 23, 3) := by decide +kernel
theorem dX4_empty_12 : decode cX4_empty 12 = .ok (.aload_n 0, 1) := by decide +kernel
theorem dX4_empty_13 : decode cX4_empty 13 = .ok (.getfield 9, 3) := by decide +kernel
theorem dX4_empty_16 : decode cX4_empty 16 = .ok (.iload_n 1, 1) := by decide +kernel
theorem dX4_empty_17 : decode cX4_empty 17 = .ok (.iconst 0, 1) := by decide +kernel
theorem dX4_empty_18 : decode cX4_empty 18 = .ok (.bastore, 1) := by decide +kernel
theorem dX4_empty_19 : decode cX4_empty 19 = .ok (.aload_n 0, 1) := by decide +kernel
theorem dX4_empty_20 : decode cX4_empty 20 = .ok (.getfield 18, 3) := by decide +kernel
theorem dX4_empty_23 : decode cX4_empty 23 = .ok (.iload_n 1, 1) := by decide +kernel
theorem dX4_empty_24 : decode cX4_empty 24 = .ok (.iconst 0, 1) := by decide +kernel
theorem dX4_empty_25 : decode cX4_empty 25 = .ok (.bastore, 1) := by decide +kernel
theorem dX4_empty_26 : decode cX4_empty 26 = .ok (.iinc 1 1, 3) := by decide +kernel
theorem dX4_empty_29 : decode cX4_empty 29 = .ok (.goto (-22), 3) := by decide +kernel
theorem dX4_empty_32 : decode cX4_empty 32 = .ok (.return_, 1) := by decide +kernel
theorem dX4_addGate_0 : decode cX4_addGate 0 = .ok (.iload_n 1, 1) := by decide +kernel
theorem dX4_addGate_1 : decode cX4_addGate 1 = .ok (.ifCond .lt 8, 3) := by decide +kernel
theorem dX4_addGate_4 : decode cX4_addGate 4 = .ok (.iload_n 1, 1) := by decide +kernel
theorem dX4_addGate_5 : decode cX4_addGate 5 = .ok (.iconst 5, 1) := by decide +kernel
theorem dX4_addGate_6 : decode cX4_addGate 6 = .ok (.if_icmp .lt 4, 3) := by decide +kernel
theorem dX4_addGate_9 : decode cX4_addGate 9 = .ok (.return_, 1) := by decide +kernel
theorem dX4_addGate_10 : decode cX4_addGate 10 = .ok (.aload_n 0, 1) := by decide +kernel
theorem dX4_addGate_11 : decode cX4_addGate 11 = .ok (.getfield 9, 3) := by decide +kernel
theorem dX4_addGate_14 : decode cX4_addGate 14 = .ok (.iload_n 1, 1) := by decide +kernel
theorem dX4_addGate_15 : decode cX4_addGate 15 = .ok (.iconst 1, 1) := by decide +kernel
theorem dX4_addGate_16 : decode cX4_addGate 16 = .ok (.bastore, 1) := by decide +kernel
theorem dX4_addGate_17 : decode cX4_addGate 17 = .ok (.aload_n 0, 1) := by decide +kernel
theorem dX4_addGate_18 : decode cX4_addGate 18 = .ok (.getfield 15, 3) := by decide +kernel
theorem dX4_addGate_21 : decode cX4_addGate 21 = .ok (.iload_n 1, 1) := by decide +kernel
theorem dX4_addGate_22 : decode cX4_addGate 22 = .ok (.iload_n 2, 1) := by decide +kernel
theorem dX4_addGate_23 : decode cX4_addGate 23 = .ok (.bastore, 1) := by decide +kernel
theorem dX4_addGate_24 : decode cX4_addGate 24 = .ok (.aload_n 0, 1) := by decide +kernel
theorem dX4_addGate_25 : decode cX4_addGate 25 = .ok (.getfield 21, 3) := by decide +kernel
theorem dX4_addGate_28 : decode cX4_addGate 28 = .ok (.iload_n 1, 1) := by decide +kernel
theorem dX4_addGate_29 : decode cX4_addGate 29 = .ok (.iload_n 3, 1) := by decide +kernel
theorem dX4_addGate_30 : decode cX4_addGate 30 = .ok (.iastore, 1) := by decide +kernel
theorem dX4_addGate_31 : decode cX4_addGate 31 = .ok (.aload_n 0, 1) := by decide +kernel
theorem dX4_addGate_32 : decode cX4_addGate 32 = .ok (.getfield 18, 3) := by decide +kernel
theorem dX4_addGate_35 : decode cX4_addGate 35 = .ok (.iload_n 1, 1) := by decide +kernel
theorem dX4_addGate_36 : decode cX4_addGate 36 = .ok (.iconst 0, 1) := by decide +kernel
theorem dX4_addGate_37 : decode cX4_addGate 37 = .ok (.bastore, 1) := by decide +kernel
theorem dX4_addGate_38 : decode cX4_addGate 38 = .ok (.return_, 1) := by decide +kernel
theorem dX4_addWish_0 : decode cX4_addWish 0 = .ok (.aload_n 0, 1) := by decide +kernel
theorem dX4_addWish_1 : decode cX4_addWish 1 = .ok (.getfield 42, 3) := by decide +kernel
theorem dX4_addWish_4 : decode cX4_addWish 4 = .ok (.iconst 4, 1) := by decide +kernel
theorem dX4_addWish_5 : decode cX4_addWish 5 = .ok (.if_icmp .lt 4, 3) := by decide +kernel
theorem dX4_addWish_8 : decode cX4_addWish 8 = .ok (.return_, 1) := by decide +kernel
theorem dX4_addWish_9 : decode cX4_addWish 9 = .ok (.aload_n 0, 1) := by decide +kernel
theorem dX4_addWish_10 : decode cX4_addWish 10 = .ok (.getfield 25, 3) := by decide +kernel
theorem dX4_addWish_13 : decode cX4_addWish 13 = .ok (.aload_n 0, 1) := by decide +kernel
theorem dX4_addWish_14 : decode cX4_addWish 14 = .ok (.getfield 42, 3) := by decide +kernel
theorem dX4_addWish_17 : decode cX4_addWish 17 = .ok (.iload_n 1, 1) := by decide +kernel
theorem dX4_addWish_18 : decode cX4_addWish 18 = .ok (.iastore, 1) := by decide +kernel
theorem dX4_addWish_19 : decode cX4_addWish 19 = .ok (.aload_n 0, 1) := by decide +kernel
theorem dX4_addWish_20 : decode cX4_addWish 20 = .ok (.getfield 28, 3) := by decide +kernel
theorem dX4_addWish_23 : decode cX4_addWish 23 = .ok (.aload_n 0, 1) := by decide +kernel
theorem dX4_addWish_24 : decode cX4_addWish 24 = .ok (.getfield 42, 3) := by decide +kernel
theorem dX4_addWish_27 : decode cX4_addWish 27 = .ok (.iload_n 2, 1) := by decide +kernel
theorem dX4_addWish_28 : decode cX4_addWish 28 = .ok (.iastore, 1) := by decide +kernel
theorem dX4_addWish_29 : decode cX4_addWish 29 = .ok (.aload_n 0, 1) := by decide +kernel
theorem dX4_addWish_30 : decode cX4_addWish 30 = .ok (.getfield 31, 3) := by decide +kernel
theorem dX4_addWish_33 : decode cX4_addWish 33 = .ok (.aload_n 0, 1) := by decide +kernel
theorem dX4_addWish_34 : decode cX4_addWish 34 = .ok (.getfield 42, 3) := by decide +kernel
theorem dX4_addWish_37 : decode cX4_addWish 37 = .ok (.iload_n 3, 1) := by decide +kernel
theorem dX4_addWish_38 : decode cX4_addWish 38 = .ok (.iastore, 1) := by decide +kernel
theorem dX4_addWish_39 : decode cX4_addWish 39 = .ok (.aload_n 0, 1) := by decide +kernel
theorem dX4_addWish_40 : decode cX4_addWish 40 = .ok (.getfield 34, 3) := by decide +kernel
theorem dX4_addWish_43 : decode cX4_addWish 43 = .ok (.aload_n 0, 1) := by decide +kernel
theorem dX4_addWish_44 : decode cX4_addWish 44 = .ok (.getfield 42, 3) := by decide +kernel
theorem dX4_addWish_47 : decode cX4_addWish 47 = .ok (.iconst 0, 1) := by decide +kernel
theorem dX4_addWish_48 : decode cX4_addWish 48 = .ok (.bastore, 1) := by decide +kernel
theorem dX4_addWish_49 : decode cX4_addWish 49 = .ok (.aload_n 0, 1) := by decide +kernel
theorem dX4_addWish_50 : decode cX4_addWish 50 = .ok (.getfield 39, 3) := by decide +kernel
theorem dX4_addWish_53 : decode cX4_addWish 53 = .ok (.aload_n 0, 1) := by decide +kernel
theorem dX4_addWish_54 : decode cX4_addWish 54 = .ok (.getfield 42, 3) := by decide +kernel
theorem dX4_addWish_57 : decode cX4_addWish 57 = .ok (.aaload, 1) := by decide +kernel
theorem dX4_addWish_58 : decode cX4_addWish 58 = .ok (.iconst 0, 1) := by decide +kernel
theorem dX4_addWish_59 : decode cX4_addWish 59 = .ok (.invokestatic 46, 3) := by decide +kernel
theorem dX4_addWish_62 : decode cX4_addWish 62 = .ok (.aload_n 0, 1) := by decide +kernel
theorem dX4_addWish_63 : decode cX4_addWish 63 = .ok (.dup, 1) := by decide +kernel
theorem dX4_addWish_64 : decode cX4_addWish 64 = .ok (.getfield 42, 3) := by decide +kernel
theorem dX4_addWish_67 : decode cX4_addWish 67 = .ok (.iconst 1, 1) := by decide +kernel
theorem dX4_addWish_68 : decode cX4_addWish 68 = .ok (.iadd, 1) := by decide +kernel
theorem dX4_addWish_69 : decode cX4_addWish 69 = .ok (.putfield 42, 3) := by decide +kernel
theorem dX4_addWish_72 : decode cX4_addWish 72 = .ok (.return_, 1) := by decide +kernel
theorem dX4_letterOf_0 : decode cX4_letterOf 0 = .ok (.iconst 0, 1) := by decide +kernel
theorem dX4_letterOf_1 : decode cX4_letterOf 1 = .ok (.istore_n 2, 1) := by decide +kernel
theorem dX4_letterOf_2 : decode cX4_letterOf 2 = .ok (.iconst 0, 1) := by decide +kernel
theorem dX4_letterOf_3 : decode cX4_letterOf 3 = .ok (.istore_n 3, 1) := by decide +kernel
theorem dX4_letterOf_4 : decode cX4_letterOf 4 = .ok (.iload_n 3, 1) := by decide +kernel
theorem dX4_letterOf_5 : decode cX4_letterOf 5 = .ok (.iconst 5, 1) := by decide +kernel
theorem dX4_letterOf_6 : decode cX4_letterOf 6 = .ok (.if_icmp .ge 31, 3) := by decide +kernel
theorem dX4_letterOf_9 : decode cX4_letterOf 9 = .ok (.aload_n 0, 1) := by decide +kernel
theorem dX4_letterOf_10 : decode cX4_letterOf 10 = .ok (.getfield 9, 3) := by decide +kernel
theorem dX4_letterOf_13 : decode cX4_letterOf 13 = .ok (.iload_n 3, 1) := by decide +kernel
theorem dX4_letterOf_14 : decode cX4_letterOf 14 = .ok (.baload, 1) := by decide +kernel
theorem dX4_letterOf_15 : decode cX4_letterOf 15 = .ok (.ifCond .ne 6, 3) := by decide +kernel
theorem dX4_letterOf_18 : decode cX4_letterOf 18 = .ok (.goto 13, 3) := by decide +kernel
theorem dX4_letterOf_21 : decode cX4_letterOf 21 = .ok (.iload_n 2, 1) := by decide +kernel
theorem dX4_letterOf_22 : decode cX4_letterOf 22 = .ok (.iload_n 1, 1) := by decide +kernel
theorem dX4_letterOf_23 : decode cX4_letterOf 23 = .ok (.if_icmp .ne 5, 3) := by decide +kernel
theorem dX4_letterOf_26 : decode cX4_letterOf 26 = .ok (.iload_n 3, 1) := by decide +kernel
theorem dX4_letterOf_27 : decode cX4_letterOf 27 = .ok (.ireturn, 1) := by decide +kernel
theorem dX4_letterOf_28 : decode cX4_letterOf 28 = .ok (.iinc 2 1, 3) := by decide +kernel
theorem dX4_letterOf_31 : decode cX4_letterOf 31 = .ok (.iinc 3 1, 3) := by decide +kernel
theorem dX4_letterOf_34 : decode cX4_letterOf 34 = .ok (.goto (-30), 3) := by decide +kernel
theorem dX4_letterOf_37 : decode cX4_letterOf 37 = .ok (.iconst (-1), 1) := by decide +kernel
theorem dX4_letterOf_38 : decode cX4_letterOf 38 = .ok (.ireturn, 1) := by decide +kernel
theorem dX4_heldGates_0 : decode cX4_heldGates 0 = .ok (.iconst 0, 1) := by decide +kernel
theorem dX4_heldGates_1 : decode cX4_heldGates 1 = .ok (.istore_n 1, 1) := by decide +kernel
theorem dX4_heldGates_2 : decode cX4_heldGates 2 = .ok (.iconst 0, 1) := by decide +kernel
theorem dX4_heldGates_3 : decode cX4_heldGates 3 = .ok (.istore_n 2, 1) := by decide +kernel
theorem dX4_heldGates_4 : decode cX4_heldGates 4 = .ok (.iload_n 2, 1) := by decide +kernel
theorem dX4_heldGates_5 : decode cX4_heldGates 5 = .ok (.iconst 5, 1) := by decide +kernel
theorem dX4_heldGates_6 : decode cX4_heldGates 6 = .ok (.if_icmp .ge 33, 3) := by decide +kernel
theorem dX4_heldGates_9 : decode cX4_heldGates 9 = .ok (.aload_n 0, 1) := by decide +kernel
theorem dX4_heldGates_10 : decode cX4_heldGates 10 = .ok (.getfield 9, 3) := by decide +kernel
theorem dX4_heldGates_13 : decode cX4_heldGates 13 = .ok (.iload_n 2, 1) := by decide +kernel
theorem dX4_heldGates_14 : decode cX4_heldGates 14 = .ok (.baload, 1) := by decide +kernel
theorem dX4_heldGates_15 : decode cX4_heldGates 15 = .ok (.ifCond .eq 18, 3) := by decide +kernel
theorem dX4_heldGates_18 : decode cX4_heldGates 18 = .ok (.aload_n 0, 1) := by decide +kernel
theorem dX4_heldGates_19 : decode cX4_heldGates 19 = .ok (.getfield 18, 3) := by decide +kernel
theorem dX4_heldGates_22 : decode cX4_heldGates 22 = .ok (.iload_n 2, 1) := by decide +kernel
theorem dX4_heldGates_23 : decode cX4_heldGates 23 = .ok (.baload, 1) := by decide +kernel
theorem dX4_heldGates_24 : decode cX4_heldGates 24 = .ok (.ifCond .ne 9, 3) := by decide +kernel
theorem dX4_heldGates_27 : decode cX4_heldGates 27 = .ok (.iload_n 1, 1) := by decide +kernel
theorem dX4_heldGates_28 : decode cX4_heldGates 28 = .ok (.iconst 1, 1) := by decide +kernel
theorem dX4_heldGates_29 : decode cX4_heldGates 29 = .ok (.iload_n 2, 1) := by decide +kernel
theorem dX4_heldGates_30 : decode cX4_heldGates 30 = .ok (.ishl, 1) := by decide +kernel
theorem dX4_heldGates_31 : decode cX4_heldGates 31 = .ok (.ior, 1) := by decide +kernel
theorem dX4_heldGates_32 : decode cX4_heldGates 32 = .ok (.istore_n 1, 1) := by decide +kernel
theorem dX4_heldGates_33 : decode cX4_heldGates 33 = .ok (.iinc 2 1, 3) := by decide +kernel
theorem dX4_heldGates_36 : decode cX4_heldGates 36 = .ok (.goto (-32), 3) := by decide +kernel
theorem dX4_heldGates_39 : decode cX4_heldGates 39 = .ok (.iload_n 1, 1) := by decide +kernel
theorem dX4_heldGates_40 : decode cX4_heldGates 40 = .ok (.ireturn, 1) := by decide +kernel
theorem dX4_gates_0 : decode cX4_gates 0 = .ok (.iconst 0, 1) := by decide +kernel
theorem dX4_gates_1 : decode cX4_gates 1 = .ok (.istore_n 1, 1) := by decide +kernel
theorem dX4_gates_2 : decode cX4_gates 2 = .ok (.iconst 0, 1) := by decide +kernel
theorem dX4_gates_3 : decode cX4_gates 3 = .ok (.istore_n 2, 1) := by decide +kernel
theorem dX4_gates_4 : decode cX4_gates 4 = .ok (.iload_n 2, 1) := by decide +kernel
theorem dX4_gates_5 : decode cX4_gates 5 = .ok (.iconst 5, 1) := by decide +kernel
theorem dX4_gates_6 : decode cX4_gates 6 = .ok (.if_icmp .ge 21, 3) := by decide +kernel
theorem dX4_gates_9 : decode cX4_gates 9 = .ok (.iload_n 1, 1) := by decide +kernel
theorem dX4_gates_10 : decode cX4_gates 10 = .ok (.aload_n 0, 1) := by decide +kernel
theorem dX4_gates_11 : decode cX4_gates 11 = .ok (.getfield 9, 3) := by decide +kernel
theorem dX4_gates_14 : decode cX4_gates 14 = .ok (.iload_n 2, 1) := by decide +kernel
theorem dX4_gates_15 : decode cX4_gates 15 = .ok (.baload, 1) := by decide +kernel
theorem dX4_gates_16 : decode cX4_gates 16 = .ok (.invokestatic 52, 3) := by decide +kernel
theorem dX4_gates_19 : decode cX4_gates 19 = .ok (.iadd, 1) := by decide +kernel
theorem dX4_gates_20 : decode cX4_gates 20 = .ok (.istore_n 1, 1) := by decide +kernel
theorem dX4_gates_21 : decode cX4_gates 21 = .ok (.iinc 2 1, 3) := by decide +kernel
theorem dX4_gates_24 : decode cX4_gates 24 = .ok (.goto (-20), 3) := by decide +kernel
theorem dX4_gates_27 : decode cX4_gates 27 = .ok (.iload_n 1, 1) := by decide +kernel
theorem dX4_gates_28 : decode cX4_gates 28 = .ok (.ireturn, 1) := by decide +kernel
theorem dX4_gatesOff_0 : decode cX4_gatesOff 0 = .ok (.iconst 0, 1) := by decide +kernel
theorem dX4_gatesOff_1 : decode cX4_gatesOff 1 = .ok (.istore_n 1, 1) := by decide +kernel
theorem dX4_gatesOff_2 : decode cX4_gatesOff 2 = .ok (.iconst 0, 1) := by decide +kernel
theorem dX4_gatesOff_3 : decode cX4_gatesOff 3 = .ok (.istore_n 2, 1) := by decide +kernel
theorem dX4_gatesOff_4 : decode cX4_gatesOff 4 = .ok (.iload_n 2, 1) := by decide +kernel
theorem dX4_gatesOff_5 : decode cX4_gatesOff 5 = .ok (.iconst 5, 1) := by decide +kernel
theorem dX4_gatesOff_6 : decode cX4_gatesOff 6 = .ok (.if_icmp .ge 38, 3) := by decide +kernel
theorem dX4_gatesOff_9 : decode cX4_gatesOff 9 = .ok (.iload_n 1, 1) := by decide +kernel
theorem dX4_gatesOff_10 : decode cX4_gatesOff 10 = .ok (.aload_n 0, 1) := by decide +kernel
theorem dX4_gatesOff_11 : decode cX4_gatesOff 11 = .ok (.getfield 9, 3) := by decide +kernel
theorem dX4_gatesOff_14 : decode cX4_gatesOff 14 = .ok (.iload_n 2, 1) := by decide +kernel
theorem dX4_gatesOff_15 : decode cX4_gatesOff 15 = .ok (.baload, 1) := by decide +kernel
theorem dX4_gatesOff_16 : decode cX4_gatesOff 16 = .ok (.ifCond .eq 16, 3) := by decide +kernel
theorem dX4_gatesOff_19 : decode cX4_gatesOff 19 = .ok (.aload_n 0, 1) := by decide +kernel
theorem dX4_gatesOff_20 : decode cX4_gatesOff 20 = .ok (.getfield 18, 3) := by decide +kernel
theorem dX4_gatesOff_23 : decode cX4_gatesOff 23 = .ok (.iload_n 2, 1) := by decide +kernel
theorem dX4_gatesOff_24 : decode cX4_gatesOff 24 = .ok (.baload, 1) := by decide +kernel
theorem dX4_gatesOff_25 : decode cX4_gatesOff 25 = .ok (.ifCond .eq 7, 3) := by decide +kernel
theorem dX4_gatesOff_28 : decode cX4_gatesOff 28 = .ok (.iconst 1, 1) := by decide +kernel
theorem dX4_gatesOff_29 : decode cX4_gatesOff 29 = .ok (.goto 4, 3) := by decide +kernel
theorem dX4_gatesOff_32 : decode cX4_gatesOff 32 = .ok (.iconst 0, 1) := by decide +kernel
theorem dX4_gatesOff_33 : decode cX4_gatesOff 33 = .ok (.invokestatic 52, 3) := by decide +kernel
theorem dX4_gatesOff_36 : decode cX4_gatesOff 36 = .ok (.iadd, 1) := by decide +kernel
theorem dX4_gatesOff_37 : decode cX4_gatesOff 37 = .ok (.istore_n 1, 1) := by decide +kernel
theorem dX4_gatesOff_38 : decode cX4_gatesOff 38 = .ok (.iinc 2 1, 3) := by decide +kernel
theorem dX4_gatesOff_41 : decode cX4_gatesOff 41 = .ok (.goto (-37), 3) := by decide +kernel
theorem dX4_gatesOff_44 : decode cX4_gatesOff 44 = .ok (.iload_n 1, 1) := by decide +kernel
theorem dX4_gatesOff_45 : decode cX4_gatesOff 45 = .ok (.ireturn, 1) := by decide +kernel
theorem dX4_wishesOff_0 : decode cX4_wishesOff 0 = .ok (.iconst 0, 1) := by decide +kernel
theorem dX4_wishesOff_1 : decode cX4_wishesOff 1 = .ok (.istore_n 1, 1) := by decide +kernel
theorem dX4_wishesOff_2 : decode cX4_wishesOff 2 = .ok (.iconst 0, 1) := by decide +kernel
theorem dX4_wishesOff_3 : decode cX4_wishesOff 3 = .ok (.istore_n 2, 1) := by decide +kernel
theorem dX4_wishesOff_4 : decode cX4_wishesOff 4 = .ok (.iload_n 2, 1) := by decide +kernel
theorem dX4_wishesOff_5 : decode cX4_wishesOff 5 = .ok (.aload_n 0, 1) := by decide +kernel
theorem dX4_wishesOff_6 : decode cX4_wishesOff 6 = .ok (.getfield 42, 3) := by decide +kernel
theorem dX4_wishesOff_9 : decode cX4_wishesOff 9 = .ok (.if_icmp .ge 21, 3) := by decide +kernel
theorem dX4_wishesOff_12 : decode cX4_wishesOff 12 = .ok (.iload_n 1, 1) := by decide +kernel
theorem dX4_wishesOff_13 : decode cX4_wishesOff 13 = .ok (.aload_n 0, 1) := by decide +kernel
theorem dX4_wishesOff_14 : decode cX4_wishesOff 14 = .ok (.getfield 34, 3) := by decide +kernel
theorem dX4_wishesOff_17 : decode cX4_wishesOff 17 = .ok (.iload_n 2, 1) := by decide +kernel
theorem dX4_wishesOff_18 : decode cX4_wishesOff 18 = .ok (.baload, 1) := by decide +kernel
theorem dX4_wishesOff_19 : decode cX4_wishesOff 19 = .ok (.invokestatic 52, 3) := by decide +kernel
theorem dX4_wishesOff_22 : decode cX4_wishesOff 22 = .ok (.iadd, 1) := by decide +kernel
theorem dX4_wishesOff_23 : decode cX4_wishesOff 23 = .ok (.istore_n 1, 1) := by decide +kernel
theorem dX4_wishesOff_24 : decode cX4_wishesOff 24 = .ok (.iinc 2 1, 3) := by decide +kernel
theorem dX4_wishesOff_27 : decode cX4_wishesOff 27 = .ok (.goto (-23), 3) := by decide +kernel
theorem dX4_wishesOff_30 : decode cX4_wishesOff 30 = .ok (.iload_n 1, 1) := by decide +kernel
theorem dX4_wishesOff_31 : decode cX4_wishesOff 31 = .ok (.ireturn, 1) := by decide +kernel
theorem dX4_narrowWishes_0 : decode cX4_narrowWishes 0 = .ok (.iconst 0, 1) := by decide +kernel
theorem dX4_narrowWishes_1 : decode cX4_narrowWishes 1 = .ok (.istore_n 1, 1) := by decide +kernel
theorem dX4_narrowWishes_2 : decode cX4_narrowWishes 2 = .ok (.iconst 0, 1) := by decide +kernel
theorem dX4_narrowWishes_3 : decode cX4_narrowWishes 3 = .ok (.istore_n 2, 1) := by decide +kernel
theorem dX4_narrowWishes_4 : decode cX4_narrowWishes 4 = .ok (.iload_n 2, 1) := by decide +kernel
theorem dX4_narrowWishes_5 : decode cX4_narrowWishes 5 = .ok (.aload_n 0, 1) := by decide +kernel
theorem dX4_narrowWishes_6 : decode cX4_narrowWishes 6 = .ok (.getfield 42, 3) := by decide +kernel
theorem dX4_narrowWishes_9 : decode cX4_narrowWishes 9 = .ok (.if_icmp .ge 65, 3) := by decide +kernel
theorem dX4_narrowWishes_12 : decode cX4_narrowWishes 12 = .ok (.iconst 0, 1) := by decide +kernel
theorem dX4_narrowWishes_13 : decode cX4_narrowWishes 13 = .ok (.istore_n 3, 1) := by decide +kernel
theorem dX4_narrowWishes_14 : decode cX4_narrowWishes 14 = .ok (.iconst 0, 1) := by decide +kernel
theorem dX4_narrowWishes_15 : decode cX4_narrowWishes 15 = .ok (.istore 4, 2) := by decide +kernel
theorem dX4_narrowWishes_17 : decode cX4_narrowWishes 17 = .ok (.iload 4, 2) := by decide +kernel
theorem dX4_narrowWishes_19 : decode cX4_narrowWishes 19 = .ok (.iconst 5, 1) := by decide +kernel
theorem dX4_narrowWishes_20 : decode cX4_narrowWishes 20 = .ok (.if_icmp .ge 32, 3) := by decide +kernel
theorem dX4_narrowWishes_23 : decode cX4_narrowWishes 23 = .ok (.iload_n 3, 1) := by decide +kernel
theorem dX4_narrowWishes_24 : decode cX4_narrowWishes 24 = .ok (.aload_n 0, 1) := by decide +kernel
theorem dX4_narrowWishes_25 : decode cX4_narrowWishes 25 = .ok (.getfield 39, 3) := by decide +kernel
theorem dX4_narrowWishes_28 : decode cX4_narrowWishes 28 = .ok (.iload_n 2, 1) := by decide +kernel
theorem dX4_narrowWishes_29 : decode cX4_narrowWishes 29 = .ok (.aaload, 1) := by decide +kernel
theorem dX4_narrowWishes_30 : decode cX4_narrowWishes 30 = .ok (.iload 4, 2) := by decide +kernel
theorem dX4_narrowWishes_32 : decode cX4_narrowWishes 32 = .ok (.iaload, 1) := by decide +kernel
theorem dX4_narrowWishes_33 : decode cX4_narrowWishes 33 = .ok (.ifCond .le 7, 3) := by decide +kernel
theorem dX4_narrowWishes_36 : decode cX4_narrowWishes 36 = .ok (.iconst 1, 1) := by decide +kernel
theorem dX4_narrowWishes_37 : decode cX4_narrowWishes 37 = .ok (.goto 4, 3) := by decide +kernel
theorem dX4_narrowWishes_40 : decode cX4_narrowWishes 40 = .ok (.iconst 0, 1) := by decide +kernel
theorem dX4_narrowWishes_41 : decode cX4_narrowWishes 41 = .ok (.invokestatic 52, 3) := by decide +kernel
theorem dX4_narrowWishes_44 : decode cX4_narrowWishes 44 = .ok (.iadd, 1) := by decide +kernel
theorem dX4_narrowWishes_45 : decode cX4_narrowWishes 45 = .ok (.istore_n 3, 1) := by decide +kernel
theorem dX4_narrowWishes_46 : decode cX4_narrowWishes 46 = .ok (.iinc 4 1, 3) := by decide +kernel
theorem dX4_narrowWishes_49 : decode cX4_narrowWishes 49 = .ok (.goto (-32), 3) := by decide +kernel
theorem dX4_narrowWishes_52 : decode cX4_narrowWishes 52 = .ok (.iload_n 1, 1) := by decide +kernel
theorem dX4_narrowWishes_53 : decode cX4_narrowWishes 53 = .ok (.iload_n 3, 1) := by decide +kernel
theorem dX4_narrowWishes_54 : decode cX4_narrowWishes 54 = .ok (.iconst 1, 1) := by decide +kernel
theorem dX4_narrowWishes_55 : decode cX4_narrowWishes 55 = .ok (.if_icmp .gt 7, 3) := by decide +kernel
theorem dX4_narrowWishes_58 : decode cX4_narrowWishes 58 = .ok (.iconst 1, 1) := by decide +kernel
theorem dX4_narrowWishes_59 : decode cX4_narrowWishes 59 = .ok (.goto 4, 3) := by decide +kernel
theorem dX4_narrowWishes_62 : decode cX4_narrowWishes 62 = .ok (.iconst 0, 1) := by decide +kernel
theorem dX4_narrowWishes_63 : decode cX4_narrowWishes 63 = .ok (.invokestatic 52, 3) := by decide +kernel
theorem dX4_narrowWishes_66 : decode cX4_narrowWishes 66 = .ok (.iadd, 1) := by decide +kernel
theorem dX4_narrowWishes_67 : decode cX4_narrowWishes 67 = .ok (.istore_n 1, 1) := by decide +kernel
theorem dX4_narrowWishes_68 : decode cX4_narrowWishes 68 = .ok (.iinc 2 1, 3) := by decide +kernel
theorem dX4_narrowWishes_71 : decode cX4_narrowWishes 71 = .ok (.goto (-67), 3) := by decide +kernel
theorem dX4_narrowWishes_74 : decode cX4_narrowWishes 74 = .ok (.iload_n 1, 1) := by decide +kernel
theorem dX4_narrowWishes_75 : decode cX4_narrowWishes 75 = .ok (.ireturn, 1) := by decide +kernel
theorem dX4_unpartedWishes_0 : decode cX4_unpartedWishes 0 = .ok (.iconst 0, 1) := by decide +kernel
theorem dX4_unpartedWishes_1 : decode cX4_unpartedWishes 1 = .ok (.istore_n 1, 1) := by decide +kernel
theorem dX4_unpartedWishes_2 : decode cX4_unpartedWishes 2 = .ok (.iconst 0, 1) := by decide +kernel
theorem dX4_unpartedWishes_3 : decode cX4_unpartedWishes 3 = .ok (.istore_n 2, 1) := by decide +kernel
theorem dX4_unpartedWishes_4 : decode cX4_unpartedWishes 4 = .ok (.iload_n 2, 1) := by decide +kernel
theorem dX4_unpartedWishes_5 : decode cX4_unpartedWishes 5 = .ok (.aload_n 0, 1) := by decide +kernel
theorem dX4_unpartedWishes_6 : decode cX4_unpartedWishes 6 = .ok (.getfield 42, 3) := by decide +kernel
theorem dX4_unpartedWishes_9 : decode cX4_unpartedWishes 9 = .ok (.if_icmp .ge 29, 3) := by decide +kernel
theorem dX4_unpartedWishes_12 : decode cX4_unpartedWishes 12 = .ok (.iload_n 1, 1) := by decide +kernel
theorem dX4_unpartedWishes_13 : decode cX4_unpartedWishes 13 = .ok (.aload_n 0, 1) := by decide +kernel
theorem dX4_unpartedWishes_14 : decode cX4_unpartedWishes 14 = .ok (.getfield 28, 3) := by decide +kernel
theorem dX4_unpartedWishes_17 : decode cX4_unpartedWishes 17 = .ok (.iload_n 2, 1) := by decide +kernel
theorem dX4_unpartedWishes_18 : decode cX4_unpartedWishes 18 = .ok (.iaload, 1) := by decide +kernel
theorem dX4_unpartedWishes_19 : decode cX4_unpartedWishes 19 = .ok (.ifCond .eq 7, 3) := by decide +kernel
theorem dX4_unpartedWishes_22 : decode cX4_unpartedWishes 22 = .ok (.iconst 1, 1) := by decide +kernel
theorem dX4_unpartedWishes_23 : decode cX4_unpartedWishes 23 = .ok (.goto 4, 3) := by decide +kernel
theorem dX4_unpartedWishes_26 : decode cX4_unpartedWishes 26 = .ok (.iconst 0, 1) := by decide +kernel
theorem dX4_unpartedWishes_27 : decode cX4_unpartedWishes 27 = .ok (.invokestatic 52, 3) := by decide +kernel
theorem dX4_unpartedWishes_30 : decode cX4_unpartedWishes 30 = .ok (.iadd, 1) := by decide +kernel
theorem dX4_unpartedWishes_31 : decode cX4_unpartedWishes 31 = .ok (.istore_n 1, 1) := by decide +kernel
theorem dX4_unpartedWishes_32 : decode cX4_unpartedWishes 32 = .ok (.iinc 2 1, 3) := by decide +kernel
theorem dX4_unpartedWishes_35 : decode cX4_unpartedWishes 35 = .ok (.goto (-31), 3) := by decide +kernel
theorem dX4_unpartedWishes_38 : decode cX4_unpartedWishes 38 = .ok (.iload_n 1, 1) := by decide +kernel
theorem dX4_unpartedWishes_39 : decode cX4_unpartedWishes 39 = .ok (.ireturn, 1) := by decide +kernel
theorem dX5_init_0 : decode cX5_init 0 = .ok (.aload_n 0, 1) := by decide +kernel
theorem dX5_init_1 : decode cX5_init 1 = .ok (.invokespecial 3, 3) := by decide +kernel
theorem dX5_init_4 : decode cX5_init 4 = .ok (.aload_n 0, 1) := by decide +kernel
theorem dX5_init_5 : decode cX5_init 5 = .ok (.iconst 4, 1) := by decide +kernel
theorem dX5_init_6 : decode cX5_init 6 = .ok (.newarray .long, 2) := by decide +kernel
theorem dX5_init_8 : decode cX5_init 8 = .ok (.putfield 9, 3) := by decide +kernel
theorem dX5_init_11 : decode cX5_init 11 = .ok (.aload_n 0, 1) := by decide +kernel
theorem dX5_init_12 : decode cX5_init 12 = .ok (.iconst 5, 1) := by decide +kernel
theorem dX5_init_13 : decode cX5_init 13 = .ok (.newarray .long, 2) := by decide +kernel
theorem dX5_init_15 : decode cX5_init 15 = .ok (.putfield 15, 3) := by decide +kernel
theorem dX5_init_18 : decode cX5_init 18 = .ok (.return_, 1) := by decide +kernel
theorem dX5_canTell_0 : decode cX5_canTell 0 = .ok (.iload_n 0, 1) := by decide +kernel
theorem dX5_canTell_1 : decode cX5_canTell 1 = .ok (.sipush (-999), 3) := by decide +kernel
theorem dX5_canTell_4 : decode cX5_canTell 4 = .ok (.if_icmp .lt 25, 3) := by decide +kernel
theorem dX5_canTell_7 : decode cX5_canTell 7 = .ok (.iload_n 0, 1) := by decide +kernel
theorem dX5_canTell_8 : decode cX5_canTell 8 = .ok (.sipush 999, 3) := by decide +kernel
theorem dX5_canTell_11 : decode cX5_canTell 11 = .ok (.if_icmp .gt 18, 3) := by decide +kernel
theorem dX5_canTell_14 : decode cX5_canTell 14 = .ok (.iload_n 1, 1) := by decide +kernel
theorem dX5_canTell_15 : decode cX5_canTell 15 = .ok (.iconst 1, 1) := by decide +kernel
theorem dX5_canTell_16 : decode cX5_canTell 16 = .ok (.if_icmp .lt 13, 3) := by decide +kernel
theorem dX5_canTell_19 : decode cX5_canTell 19 = .ok (.iload_n 1, 1) := by decide +kernel
theorem dX5_canTell_20 : decode cX5_canTell 20 = .ok (.bipush 12, 2) := by decide +kernel
theorem dX5_canTell_22 : decode cX5_canTell 22 = .ok (.if_icmp .gt 7, 3) := by decide +kernel
theorem dX5_canTell_25 : decode cX5_canTell 25 = .ok (.iconst 1, 1) := by decide +kernel
theorem dX5_canTell_26 : decode cX5_canTell 26 = .ok (.goto 4, 3) := by decide +kernel
theorem dX5_canTell_29 : decode cX5_canTell 29 = .ok (.iconst 0, 1) := by decide +kernel
theorem dX5_canTell_30 : decode cX5_canTell 30 = .ok (.ireturn, 1) := by decide +kernel
theorem dX5_scaled_0 : decode cX5_scaled 0 = .ok (.iload_n 1, 1) := by decide +kernel
theorem dX5_scaled_1 : decode cX5_scaled 1 = .ok (.ifCond .ne 7, 3) := by decide +kernel
theorem dX5_scaled_4 : decode cX5_scaled 4 = .ok (.lconst 0, 1) := by decide +kernel
theorem dX5_scaled_5 : decode cX5_scaled 5 = .ok (.goto 12, 3) := by decide +kernel
theorem dX5_scaled_8 : decode cX5_scaled 8 = .ok (.iload_n 0, 1) := by decide +kernel
theorem dX5_scaled_9 : decode cX5_scaled 9 = .ok (.i2l, 1) := by decide +kernel
theorem dX5_scaled_10 : decode cX5_scaled 10 = .ok (.sipush 27720, 3) := by decide +kernel
theorem dX5_scaled_13 : decode cX5_scaled 13 = .ok (.iload_n 1, 1) := by decide +kernel
theorem dX5_scaled_14 : decode cX5_scaled 14 = .ok (.idiv, 1) := by decide +kernel
theorem dX5_scaled_15 : decode cX5_scaled 15 = .ok (.i2l, 1) := by decide +kernel
theorem dX5_scaled_16 : decode cX5_scaled 16 = .ok (.lmul, 1) := by decide +kernel
theorem dX5_scaled_17 : decode cX5_scaled 17 = .ok (.lreturn, 1) := by decide +kernel
theorem dX5_forget_0 : decode cX5_forget 0 = .ok (.aload_n 0, 1) := by decide +kernel
theorem dX5_forget_1 : decode cX5_forget 1 = .ok (.getfield 9, 3) := by decide +kernel
theorem dX5_forget_4 : decode cX5_forget 4 = .ok (.lconst 0, 1) := by decide +kernel
theorem dX5_forget_5 : decode cX5_forget 5 = .ok (.invokestatic 18, 3) := by decide +kernel
theorem dX5_forget_8 : decode cX5_forget 8 = .ok (.aload_n 0, 1) := by decide +kernel
theorem dX5_forget_9 : decode cX5_forget 9 = .ok (.getfield 15, 3) := by decide +kernel
theorem dX5_forget_12 : decode cX5_forget 12 = .ok (.lconst 0, 1) := by decide +kernel
theorem dX5_forget_13 : decode cX5_forget 13 = .ok (.invokestatic 18, 3) := by decide +kernel
theorem dX5_forget_16 : decode cX5_forget 16 = .ok (.return_, 1) := by decide +kernel
theorem dX5_withinBounds_0 : decode cX5_withinBounds 0 = .ok (.iconst 0, 1) := by decide +kernel
theorem dX5_withinBounds_1 : decode cX5_withinBounds 1 = .ok (.istore_n 2, 1) := by decide +kernel
theorem dX5_withinBounds_2 : decode cX5_withinBounds 2 = .ok (.iload_n 2, 1) := by decide +kernel
theorem dX5_withinBounds_3 : decode cX5_withinBounds 3 = .ok (.aload_n 1, 1) := by decide +kernel
theorem dX5_withinBounds_4 : decode cX5_withinBounds 4 = .ok (.getfield 24, 3) := by decide +kernel
theorem dX5_withinBounds_7 : decode cX5_withinBounds 7 = .ok (.if_icmp .ge 58, 3) := by decide +kernel
theorem dX5_withinBounds_10 : decode cX5_withinBounds 10 = .ok (.aload_n 1, 1) := by decide +kernel
theorem dX5_withinBounds_11 : decode cX5_withinBounds 11 = .ok (.getfield 30, 3) := by decide +kernel
theorem dX5_withinBounds_14 : decode cX5_withinBounds 14 = .ok (.iload_n 2, 1) := by decide +kernel
theorem dX5_withinBounds_15 : decode cX5_withinBounds 15 = .ok (.baload, 1) := by decide +kernel
theorem dX5_withinBounds_16 : decode cX5_withinBounds 16 = .ok (.ifCond .eq 7, 3) := by decide +kernel
theorem dX5_withinBounds_19 : decode cX5_withinBounds 19 = .ok (.lconst 0, 1) := by decide +kernel
theorem dX5_withinBounds_20 : decode cX5_withinBounds 20 = .ok (.goto 14, 3) := by decide +kernel
theorem dX5_withinBounds_23 : decode cX5_withinBounds 23 = .ok (.aload_n 1, 1) := by decide +kernel
theorem dX5_withinBounds_24 : decode cX5_withinBounds 24 = .ok (.getfield 34, 3) := by decide +kernel
theorem dX5_withinBounds_27 : decode cX5_withinBounds 27 = .ok (.iload_n 2, 1) := by decide +kernel
theorem dX5_withinBounds_28 : decode cX5_withinBounds 28 = .ok (.iaload, 1) := by decide +kernel
theorem dX5_withinBounds_29 : decode cX5_withinBounds 29 = .ok (.i2l, 1) := by decide +kernel
theorem dX5_withinBounds_30 : decode cX5_withinBounds 30 = .ok (.ldc2_w 38, 3) := by decide +kernel
theorem dX5_withinBounds_33 : decode cX5_withinBounds 33 = .ok (.lmul, 1) := by decide +kernel
theorem dX5_withinBounds_34 : decode cX5_withinBounds 34 = .ok (.lstore_n 3, 1) := by decide +kernel
theorem dX5_withinBounds_35 : decode cX5_withinBounds 35 = .ok (.aload_n 0, 1) := by decide +kernel
theorem dX5_withinBounds_36 : decode cX5_withinBounds 36 = .ok (.getfield 9, 3) := by decide +kernel
theorem dX5_withinBounds_39 : decode cX5_withinBounds 39 = .ok (.iload_n 2, 1) := by decide +kernel
theorem dX5_withinBounds_40 : decode cX5_withinBounds 40 = .ok (.laload, 1) := by decide +kernel
theorem dX5_withinBounds_41 : decode cX5_withinBounds 41 = .ok (.lconst 0, 1) := by decide +kernel
theorem dX5_withinBounds_42 : decode cX5_withinBounds 42 = .ok (.lcmp, 1) := by decide +kernel
theorem dX5_withinBounds_43 : decode cX5_withinBounds 43 = .ok (.ifCond .lt 14, 3) := by decide +kernel
theorem dX5_withinBounds_46 : decode cX5_withinBounds 46 = .ok (.aload_n 0, 1) := by decide +kernel
theorem dX5_withinBounds_47 : decode cX5_withinBounds 47 = .ok (.getfield 9, 3) := by decide +kernel
theorem dX5_withinBounds_50 : decode cX5_withinBounds 50 = .ok (.iload_n 2, 1) := by decide +kernel
theorem dX5_withinBounds_51 : decode cX5_withinBounds 51 = .ok (.laload, 1) := by decide +kernel
theorem dX5_withinBounds_52 : decode cX5_withinBounds 52 = .ok (.lload_n 3, 1) := by decide +kernel
theorem dX5_withinBounds_53 : decode cX5_withinBounds 53 = .ok (.lcmp, 1) := by decide +kernel
theorem dX5_withinBounds_54 : decode cX5_withinBounds 54 = .ok (.ifCond .le 5, 3) := by decide +kernel
theorem dX5_withinBounds_57 : decode cX5_withinBounds 57 = .ok (.iconst 0, 1) := by decide +kernel
theorem dX5_withinBounds_58 : decode cX5_withinBounds 58 = .ok (.ireturn, 1) := by decide +kernel
theorem dX5_withinBounds_59 : decode cX5_withinBounds 59 = .ok (.iinc 2 1, 3) := by decide +kernel
theorem dX5_withinBounds_62 : decode cX5_withinBounds 62 = .ok (.goto (-60), 3) := by decide +kernel
theorem dX5_withinBounds_65 : decode cX5_withinBounds 65 = .ok (.iconst 1, 1) := by decide +kernel
theorem dX5_withinBounds_66 : decode cX5_withinBounds 66 = .ok (.ireturn, 1) := by decide +kernel
theorem dX5_gatesHold_0 : decode cX5_gatesHold 0 = .ok (.aload_n 1, 1) := by decide +kernel
theorem dX5_gatesHold_1 : decode cX5_gatesHold 1 = .ok (.invokevirtual 40, 3) := by decide +kernel
theorem dX5_gatesHold_4 : decode cX5_gatesHold 4 = .ok (.istore_n 2, 1) := by decide +kernel
theorem dX5_gatesHold_5 : decode cX5_gatesHold 5 = .ok (.iconst 0, 1) := by decide +kernel
theorem dX5_gatesHold_6 : decode cX5_gatesHold 6 = .ok (.istore_n 3, 1) := by decide +kernel
theorem dX5_gatesHold_7 : decode cX5_gatesHold 7 = .ok (.iload_n 3, 1) := by decide +kernel
theorem dX5_gatesHold_8 : decode cX5_gatesHold 8 = .ok (.iconst 5, 1) := by decide +kernel
theorem dX5_gatesHold_9 : decode cX5_gatesHold 9 = .ok (.if_icmp .ge 103, 3) := by decide +kernel
theorem dX5_gatesHold_12 : decode cX5_gatesHold 12 = .ok (.iload_n 2, 1) := by decide +kernel
theorem dX5_gatesHold_13 : decode cX5_gatesHold 13 = .ok (.iload_n 3, 1) := by decide +kernel
theorem dX5_gatesHold_14 : decode cX5_gatesHold 14 = .ok (.ishr, 1) := by decide +kernel
theorem dX5_gatesHold_15 : decode cX5_gatesHold 15 = .ok (.iconst 1, 1) := by decide +kernel
theorem dX5_gatesHold_16 : decode cX5_gatesHold 16 = .ok (.iand, 1) := by decide +kernel
theorem dX5_gatesHold_17 : decode cX5_gatesHold 17 = .ok (.ifCond .ne 6, 3) := by decide +kernel
theorem dX5_gatesHold_20 : decode cX5_gatesHold 20 = .ok (.goto 86, 3) := by decide +kernel
theorem dX5_gatesHold_23 : decode cX5_gatesHold 23 = .ok (.aload_n 1, 1) := by decide +kernel
theorem dX5_gatesHold_24 : decode cX5_gatesHold 24 = .ok (.getfield 44, 3) := by decide +kernel
theorem dX5_gatesHold_27 : decode cX5_gatesHold 27 = .ok (.iload_n 3, 1) := by decide +kernel
theorem dX5_gatesHold_28 : decode cX5_gatesHold 28 = .ok (.iaload, 1) := by decide +kernel
theorem dX5_gatesHold_29 : decode cX5_gatesHold 29 = .ok (.i2l, 1) := by decide +kernel
theorem dX5_gatesHold_30 : decode cX5_gatesHold 30 = .ok (.lneg, 1) := by decide +kernel
theorem dX5_gatesHold_31 : decode cX5_gatesHold 31 = .ok (.ldc2_w 38, 3) := by decide +kernel
theorem dX5_gatesHold_34 : decode cX5_gatesHold 34 = .ok (.lmul, 1) := by decide +kernel
theorem dX5_gatesHold_35 : decode cX5_gatesHold 35 = .ok (.lstore 4, 2) := by decide +kernel
theorem dX5_gatesHold_37 : decode cX5_gatesHold 37 = .ok (.iconst 0, 1) := by decide +kernel
theorem dX5_gatesHold_38 : decode cX5_gatesHold 38 = .ok (.istore 6, 2) := by decide +kernel
theorem dX5_gatesHold_40 : decode cX5_gatesHold 40 = .ok (.iload 6, 2) := by decide +kernel
theorem dX5_gatesHold_42 : decode cX5_gatesHold 42 = .ok (.aload_n 1, 1) := by decide +kernel
theorem dX5_gatesHold_43 : decode cX5_gatesHold 43 = .ok (.getfield 24, 3) := by decide +kernel
theorem dX5_gatesHold_46 : decode cX5_gatesHold 46 = .ok (.if_icmp .ge 32, 3) := by decide +kernel
theorem dX5_gatesHold_49 : decode cX5_gatesHold 49 = .ok (.lload 4, 2) := by decide +kernel
theorem dX5_gatesHold_51 : decode cX5_gatesHold 51 = .ok (.aload_n 1, 1) := by decide +kernel
theorem dX5_gatesHold_52 : decode cX5_gatesHold 52 = .ok (.getfield 47, 3) := by decide +kernel
theorem dX5_gatesHold_55 : decode cX5_gatesHold 55 = .ok (.iload 6, 2) := by decide +kernel
theorem dX5_gatesHold_57 : decode cX5_gatesHold 57 = .ok (.aaload, 1) := by decide +kernel
theorem dX5_gatesHold_58 : decode cX5_gatesHold 58 = .ok (.iload_n 3, 1) := by decide +kernel
theorem dX5_gatesHold_59 : decode cX5_gatesHold 59 = .ok (.iaload, 1) := by decide +kernel
theorem dX5_gatesHold_60 : decode cX5_gatesHold 60 = .ok (.i2l, 1) := by decide +kernel
theorem dX5_gatesHold_61 : decode cX5_gatesHold 61 = .ok (.aload_n 0, 1) := by decide +kernel
theorem dX5_gatesHold_62 : decode cX5_gatesHold 62 = .ok (.getfield 9, 3) := by decide +kernel
theorem dX5_gatesHold_65 : decode cX5_gatesHold 65 = .ok (.iload 6, 2) := by decide +kernel
theorem dX5_gatesHold_67 : decode cX5_gatesHold 67 = .ok (.laload, 1) := by decide +kernel
theorem dX5_gatesHold_68 : decode cX5_gatesHold 68 = .ok (.lmul, 1) := by decide +kernel
theorem dX5_gatesHold_69 : decode cX5_gatesHold 69 = .ok (.ladd, 1) := by decide +kernel
theorem dX5_gatesHold_70 : decode cX5_gatesHold 70 = .ok (.lstore 4, 2) := by decide +kernel
theorem dX5_gatesHold_72 : decode cX5_gatesHold 72 = .ok (.iinc 6 1, 3) := by decide +kernel
theorem dX5_gatesHold_75 : decode cX5_gatesHold 75 = .ok (.goto (-35), 3) := by decide +kernel
theorem dX5_gatesHold_78 : decode cX5_gatesHold 78 = .ok (.aload_n 1, 1) := by decide +kernel
theorem dX5_gatesHold_79 : decode cX5_gatesHold 79 = .ok (.getfield 51, 3) := by decide +kernel
theorem dX5_gatesHold_82 : decode cX5_gatesHold 82 = .ok (.iload_n 3, 1) := by decide +kernel
theorem dX5_gatesHold_83 : decode cX5_gatesHold 83 = .ok (.baload, 1) := by decide +kernel
theorem dX5_gatesHold_84 : decode cX5_gatesHold 84 = .ok (.ifCond .eq 13, 3) := by decide +kernel
theorem dX5_gatesHold_87 : decode cX5_gatesHold 87 = .ok (.lload 4, 2) := by decide +kernel
theorem dX5_gatesHold_89 : decode cX5_gatesHold 89 = .ok (.lconst 0, 1) := by decide +kernel
theorem dX5_gatesHold_90 : decode cX5_gatesHold 90 = .ok (.lcmp, 1) := by decide +kernel
theorem dX5_gatesHold_91 : decode cX5_gatesHold 91 = .ok (.ifCond .ge 15, 3) := by decide +kernel
theorem dX5_gatesHold_94 : decode cX5_gatesHold 94 = .ok (.goto 10, 3) := by decide +kernel
theorem dX5_gatesHold_97 : decode cX5_gatesHold 97 = .ok (.lload 4, 2) := by decide +kernel
theorem dX5_gatesHold_99 : decode cX5_gatesHold 99 = .ok (.lconst 0, 1) := by decide +kernel
theorem dX5_gatesHold_100 : decode cX5_gatesHold 100 = .ok (.lcmp, 1) := by decide +kernel
theorem dX5_gatesHold_101 : decode cX5_gatesHold 101 = .ok (.ifCond .le 5, 3) := by decide +kernel
theorem dX5_gatesHold_104 : decode cX5_gatesHold 104 = .ok (.iconst 0, 1) := by decide +kernel
theorem dX5_gatesHold_105 : decode cX5_gatesHold 105 = .ok (.ireturn, 1) := by decide +kernel
theorem dX5_gatesHold_106 : decode cX5_gatesHold 106 = .ok (.iinc 3 1, 3) := by decide +kernel
theorem dX5_gatesHold_109 : decode cX5_gatesHold 109 = .ok (.goto (-102), 3) := by decide +kernel
theorem dX5_gatesHold_112 : decode cX5_gatesHold 112 = .ok (.iconst 1, 1) := by decide +kernel
theorem dX5_gatesHold_113 : decode cX5_gatesHold 113 = .ok (.ireturn, 1) := by decide +kernel
theorem dX5_pricesFit_0 : decode cX5_pricesFit 0 = .ok (.iconst 0, 1) := by decide +kernel
theorem dX5_pricesFit_1 : decode cX5_pricesFit 1 = .ok (.istore_n 2, 1) := by decide +kernel
theorem dX5_pricesFit_2 : decode cX5_pricesFit 2 = .ok (.iload_n 2, 1) := by decide +kernel
theorem dX5_pricesFit_3 : decode cX5_pricesFit 3 = .ok (.iconst 5, 1) := by decide +kernel
theorem dX5_pricesFit_4 : decode cX5_pricesFit 4 = .ok (.if_icmp .ge 71, 3) := by decide +kernel
theorem dX5_pricesFit_7 : decode cX5_pricesFit 7 = .ok (.aload_n 1, 1) := by decide +kernel
theorem dX5_pricesFit_8 : decode cX5_pricesFit 8 = .ok (.getfield 54, 3) := by decide +kernel
theorem dX5_pricesFit_11 : decode cX5_pricesFit 11 = .ok (.iload_n 2, 1) := by decide +kernel
theorem dX5_pricesFit_12 : decode cX5_pricesFit 12 = .ok (.baload, 1) := by decide +kernel
theorem dX5_pricesFit_13 : decode cX5_pricesFit 13 = .ok (.ifCond .ne 6, 3) := by decide +kernel
theorem dX5_pricesFit_16 : decode cX5_pricesFit 16 = .ok (.goto 53, 3) := by decide +kernel
theorem dX5_pricesFit_19 : decode cX5_pricesFit 19 = .ok (.aload_n 0, 1) := by decide +kernel
theorem dX5_pricesFit_20 : decode cX5_pricesFit 20 = .ok (.getfield 15, 3) := by decide +kernel
theorem dX5_pricesFit_23 : decode cX5_pricesFit 23 = .ok (.iload_n 2, 1) := by decide +kernel
theorem dX5_pricesFit_24 : decode cX5_pricesFit 24 = .ok (.laload, 1) := by decide +kernel
theorem dX5_pricesFit_25 : decode cX5_pricesFit 25 = .ok (.lstore_n 3, 1) := by decide +kernel
theorem dX5_pricesFit_26 : decode cX5_pricesFit 26 = .ok (.aload_n 1, 1) := by decide +kernel
theorem dX5_pricesFit_27 : decode cX5_pricesFit 27 = .ok (.getfield 57, 3) := by decide +kernel
theorem dX5_pricesFit_30 : decode cX5_pricesFit 30 = .ok (.iload_n 2, 1) := by decide +kernel
theorem dX5_pricesFit_31 : decode cX5_pricesFit 31 = .ok (.baload, 1) := by decide +kernel
theorem dX5_pricesFit_32 : decode cX5_pricesFit 32 = .ok (.ifCond .eq 11, 3) := by decide +kernel
theorem dX5_pricesFit_35 : decode cX5_pricesFit 35 = .ok (.lload_n 3, 1) := by decide +kernel
theorem dX5_pricesFit_36 : decode cX5_pricesFit 36 = .ok (.lconst 0, 1) := by decide +kernel
theorem dX5_pricesFit_37 : decode cX5_pricesFit 37 = .ok (.lcmp, 1) := by decide +kernel
theorem dX5_pricesFit_38 : decode cX5_pricesFit 38 = .ok (.ifCond .eq 5, 3) := by decide +kernel
theorem dX5_pricesFit_41 : decode cX5_pricesFit 41 = .ok (.iconst 0, 1) := by decide +kernel
theorem dX5_pricesFit_42 : decode cX5_pricesFit 42 = .ok (.ireturn, 1) := by decide +kernel
theorem dX5_pricesFit_43 : decode cX5_pricesFit 43 = .ok (.aload_n 1, 1) := by decide +kernel
theorem dX5_pricesFit_44 : decode cX5_pricesFit 44 = .ok (.getfield 51, 3) := by decide +kernel
theorem dX5_pricesFit_47 : decode cX5_pricesFit 47 = .ok (.iload_n 2, 1) := by decide +kernel
theorem dX5_pricesFit_48 : decode cX5_pricesFit 48 = .ok (.baload, 1) := by decide +kernel
theorem dX5_pricesFit_49 : decode cX5_pricesFit 49 = .ok (.ifCond .eq 12, 3) := by decide +kernel
theorem dX5_pricesFit_52 : decode cX5_pricesFit 52 = .ok (.lload_n 3, 1) := by decide +kernel
theorem dX5_pricesFit_53 : decode cX5_pricesFit 53 = .ok (.lconst 0, 1) := by decide +kernel
theorem dX5_pricesFit_54 : decode cX5_pricesFit 54 = .ok (.lcmp, 1) := by decide +kernel
theorem dX5_pricesFit_55 : decode cX5_pricesFit 55 = .ok (.ifCond .le 14, 3) := by decide +kernel
theorem dX5_pricesFit_58 : decode cX5_pricesFit 58 = .ok (.goto 9, 3) := by decide +kernel
theorem dX5_pricesFit_61 : decode cX5_pricesFit 61 = .ok (.lload_n 3, 1) := by decide +kernel
theorem dX5_pricesFit_62 : decode cX5_pricesFit 62 = .ok (.lconst 0, 1) := by decide +kernel
theorem dX5_pricesFit_63 : decode cX5_pricesFit 63 = .ok (.lcmp, 1) := by decide +kernel
theorem dX5_pricesFit_64 : decode cX5_pricesFit 64 = .ok (.ifCond .ge 5, 3) := by decide +kernel
theorem dX5_pricesFit_67 : decode cX5_pricesFit 67 = .ok (.iconst 0, 1) := by decide +kernel
theorem dX5_pricesFit_68 : decode cX5_pricesFit 68 = .ok (.ireturn, 1) := by decide +kernel
theorem dX5_pricesFit_69 : decode cX5_pricesFit 69 = .ok (.iinc 2 1, 3) := by decide +kernel
theorem dX5_pricesFit_72 : decode cX5_pricesFit 72 = .ok (.goto (-70), 3) := by decide +kernel
theorem dX5_pricesFit_75 : decode cX5_pricesFit 75 = .ok (.iconst 1, 1) := by decide +kernel
theorem dX5_pricesFit_76 : decode cX5_pricesFit 76 = .ok (.ireturn, 1) := by decide +kernel
theorem dX5_sumsMeet_0 : decode cX5_sumsMeet 0 = .ok (.lconst 0, 1) := by decide +kernel
theorem dX5_sumsMeet_1 : decode cX5_sumsMeet 1 = .ok (.lstore_n 2, 1) := by decide +kernel
theorem dX5_sumsMeet_2 : decode cX5_sumsMeet 2 = .ok (.iconst 0, 1) := by decide +kernel
theorem dX5_sumsMeet_3 : decode cX5_sumsMeet 3 = .ok (.istore 4, 2) := by decide +kernel
theorem dX5_sumsMeet_5 : decode cX5_sumsMeet 5 = .ok (.iload 4, 2) := by decide +kernel
theorem dX5_sumsMeet_7 : decode cX5_sumsMeet 7 = .ok (.aload_n 1, 1) := by decide +kernel
theorem dX5_sumsMeet_8 : decode cX5_sumsMeet 8 = .ok (.getfield 24, 3) := by decide +kernel
theorem dX5_sumsMeet_11 : decode cX5_sumsMeet 11 = .ok (.if_icmp .ge 57, 3) := by decide +kernel
theorem dX5_sumsMeet_14 : decode cX5_sumsMeet 14 = .ok (.lload_n 2, 1) := by decide +kernel
theorem dX5_sumsMeet_15 : decode cX5_sumsMeet 15 = .ok (.aload_n 1, 1) := by decide +kernel
theorem dX5_sumsMeet_16 : decode cX5_sumsMeet 16 = .ok (.getfield 60, 3) := by decide +kernel
theorem dX5_sumsMeet_19 : decode cX5_sumsMeet 19 = .ok (.iload 4, 2) := by decide +kernel
theorem dX5_sumsMeet_21 : decode cX5_sumsMeet 21 = .ok (.iaload, 1) := by decide +kernel
theorem dX5_sumsMeet_22 : decode cX5_sumsMeet 22 = .ok (.i2l, 1) := by decide +kernel
theorem dX5_sumsMeet_23 : decode cX5_sumsMeet 23 = .ok (.aload_n 0, 1) := by decide +kernel
theorem dX5_sumsMeet_24 : decode cX5_sumsMeet 24 = .ok (.getfield 9, 3) := by decide +kernel
theorem dX5_sumsMeet_27 : decode cX5_sumsMeet 27 = .ok (.iload 4, 2) := by decide +kernel
theorem dX5_sumsMeet_29 : decode cX5_sumsMeet 29 = .ok (.laload, 1) := by decide +kernel
theorem dX5_sumsMeet_30 : decode cX5_sumsMeet 30 = .ok (.lmul, 1) := by decide +kernel
theorem dX5_sumsMeet_31 : decode cX5_sumsMeet 31 = .ok (.lsub, 1) := by decide +kernel
theorem dX5_sumsMeet_32 : decode cX5_sumsMeet 32 = .ok (.lstore_n 2, 1) := by decide +kernel
theorem dX5_sumsMeet_33 : decode cX5_sumsMeet 33 = .ok (.aload_n 1, 1) := by decide +kernel
theorem dX5_sumsMeet_34 : decode cX5_sumsMeet 34 = .ok (.getfield 30, 3) := by decide +kernel
theorem dX5_sumsMeet_37 : decode cX5_sumsMeet 37 = .ok (.iload 4, 2) := by decide +kernel
theorem dX5_sumsMeet_39 : decode cX5_sumsMeet 39 = .ok (.baload, 1) := by decide +kernel
theorem dX5_sumsMeet_40 : decode cX5_sumsMeet 40 = .ok (.ifCond .ne 22, 3) := by decide +kernel
theorem dX5_sumsMeet_43 : decode cX5_sumsMeet 43 = .ok (.lload_n 2, 1) := by decide +kernel
theorem dX5_sumsMeet_44 : decode cX5_sumsMeet 44 = .ok (.aload_n 1, 1) := by decide +kernel
theorem dX5_sumsMeet_45 : decode cX5_sumsMeet 45 = .ok (.getfield 34, 3) := by decide +kernel
theorem dX5_sumsMeet_48 : decode cX5_sumsMeet 48 = .ok (.iload 4, 2) := by decide +kernel
theorem dX5_sumsMeet_50 : decode cX5_sumsMeet 50 = .ok (.iaload, 1) := by decide +kernel
theorem dX5_sumsMeet_51 : decode cX5_sumsMeet 51 = .ok (.i2l, 1) := by decide +kernel
theorem dX5_sumsMeet_52 : decode cX5_sumsMeet 52 = .ok (.aload_n 0, 1) := by decide +kernel
theorem dX5_sumsMeet_53 : decode cX5_sumsMeet 53 = .ok (.aload_n 1, 1) := by decide +kernel
theorem dX5_sumsMeet_54 : decode cX5_sumsMeet 54 = .ok (.iload 4, 2) := by decide +kernel
theorem dX5_sumsMeet_56 : decode cX5_sumsMeet 56 = .ok (.invokevirtual 63, 3) := by decide +kernel
theorem dX5_sumsMeet_59 : decode cX5_sumsMeet 59 = .ok (.lmul, 1) := by decide +kernel
theorem dX5_sumsMeet_60 : decode cX5_sumsMeet 60 = .ok (.ladd, 1) := by decide +kernel
theorem dX5_sumsMeet_61 : decode cX5_sumsMeet 61 = .ok (.lstore_n 2, 1) := by decide +kernel
theorem dX5_sumsMeet_62 : decode cX5_sumsMeet 62 = .ok (.iinc 4 1, 3) := by decide +kernel
theorem dX5_sumsMeet_65 : decode cX5_sumsMeet 65 = .ok (.goto (-60), 3) := by decide +kernel
theorem dX5_sumsMeet_68 : decode cX5_sumsMeet 68 = .ok (.iconst 0, 1) := by decide +kernel
theorem dX5_sumsMeet_69 : decode cX5_sumsMeet 69 = .ok (.istore 4, 2) := by decide +kernel
theorem dX5_sumsMeet_71 : decode cX5_sumsMeet 71 = .ok (.iload 4, 2) := by decide +kernel
theorem dX5_sumsMeet_73 : decode cX5_sumsMeet 73 = .ok (.iconst 5, 1) := by decide +kernel
theorem dX5_sumsMeet_74 : decode cX5_sumsMeet 74 = .ok (.if_icmp .ge 38, 3) := by decide +kernel
theorem dX5_sumsMeet_77 : decode cX5_sumsMeet 77 = .ok (.aload_n 1, 1) := by decide +kernel
theorem dX5_sumsMeet_78 : decode cX5_sumsMeet 78 = .ok (.getfield 54, 3) := by decide +kernel
theorem dX5_sumsMeet_81 : decode cX5_sumsMeet 81 = .ok (.iload 4, 2) := by decide +kernel
theorem dX5_sumsMeet_83 : decode cX5_sumsMeet 83 = .ok (.baload, 1) := by decide +kernel
theorem dX5_sumsMeet_84 : decode cX5_sumsMeet 84 = .ok (.ifCond .eq 22, 3) := by decide +kernel
theorem dX5_sumsMeet_87 : decode cX5_sumsMeet 87 = .ok (.lload_n 2, 1) := by decide +kernel
theorem dX5_sumsMeet_88 : decode cX5_sumsMeet 88 = .ok (.aload_n 1, 1) := by decide +kernel
theorem dX5_sumsMeet_89 : decode cX5_sumsMeet 89 = .ok (.getfield 44, 3) := by decide +kernel
theorem dX5_sumsMeet_92 : decode cX5_sumsMeet 92 = .ok (.iload 4, 2) := by decide +kernel
theorem dX5_sumsMeet_94 : decode cX5_sumsMeet 94 = .ok (.iaload, 1) := by decide +kernel
theorem dX5_sumsMeet_95 : decode cX5_sumsMeet 95 = .ok (.i2l, 1) := by decide +kernel
theorem dX5_sumsMeet_96 : decode cX5_sumsMeet 96 = .ok (.aload_n 0, 1) := by decide +kernel
theorem dX5_sumsMeet_97 : decode cX5_sumsMeet 97 = .ok (.getfield 15, 3) := by decide +kernel
theorem dX5_sumsMeet_100 : decode cX5_sumsMeet 100 = .ok (.iload 4, 2) := by decide +kernel
theorem dX5_sumsMeet_102 : decode cX5_sumsMeet 102 = .ok (.laload, 1) := by decide +kernel
theorem dX5_sumsMeet_103 : decode cX5_sumsMeet 103 = .ok (.lmul, 1) := by decide +kernel
theorem dX5_sumsMeet_104 : decode cX5_sumsMeet 104 = .ok (.ladd, 1) := by decide +kernel
theorem dX5_sumsMeet_105 : decode cX5_sumsMeet 105 = .ok (.lstore_n 2, 1) := by decide +kernel
theorem dX5_sumsMeet_106 : decode cX5_sumsMeet 106 = .ok (.iinc 4 1, 3) := by decide +kernel
theorem dX5_sumsMeet_109 : decode cX5_sumsMeet 109 = .ok (.goto (-38), 3) := by decide +kernel
theorem dX5_sumsMeet_112 : decode cX5_sumsMeet 112 = .ok (.lload_n 2, 1) := by decide +kernel
theorem dX5_sumsMeet_113 : decode cX5_sumsMeet 113 = .ok (.lconst 0, 1) := by decide +kernel
theorem dX5_sumsMeet_114 : decode cX5_sumsMeet 114 = .ok (.lcmp, 1) := by decide +kernel
theorem dX5_sumsMeet_115 : decode cX5_sumsMeet 115 = .ok (.ifCond .ne 7, 3) := by decide +kernel
theorem dX5_sumsMeet_118 : decode cX5_sumsMeet 118 = .ok (.iconst 1, 1) := by decide +kernel
theorem dX5_sumsMeet_119 : decode cX5_sumsMeet 119 = .ok (.goto 4, 3) := by decide +kernel
theorem dX5_sumsMeet_122 : decode cX5_sumsMeet 122 = .ok (.iconst 0, 1) := by decide +kernel
theorem dX5_sumsMeet_123 : decode cX5_sumsMeet 123 = .ok (.ireturn, 1) := by decide +kernel
theorem dX5_rest_0 : decode cX5_rest 0 = .ok (.aload_n 1, 1) := by decide +kernel
theorem dX5_rest_1 : decode cX5_rest 1 = .ok (.getfield 60, 3) := by decide +kernel
theorem dX5_rest_4 : decode cX5_rest 4 = .ok (.iload_n 2, 1) := by decide +kernel
theorem dX5_rest_5 : decode cX5_rest 5 = .ok (.iaload, 1) := by decide +kernel
theorem dX5_rest_6 : decode cX5_rest 6 = .ok (.i2l, 1) := by decide +kernel
theorem dX5_rest_7 : decode cX5_rest 7 = .ok (.ldc2_w 38, 3) := by decide +kernel
theorem dX5_rest_10 : decode cX5_rest 10 = .ok (.lmul, 1) := by decide +kernel
theorem dX5_rest_11 : decode cX5_rest 11 = .ok (.lstore_n 3, 1) := by decide +kernel
theorem dX5_rest_12 : decode cX5_rest 12 = .ok (.iconst 0, 1) := by decide +kernel
theorem dX5_rest_13 : decode cX5_rest 13 = .ok (.istore 5, 2) := by decide +kernel
theorem dX5_rest_15 : decode cX5_rest 15 = .ok (.iload 5, 2) := by decide +kernel
theorem dX5_rest_17 : decode cX5_rest 17 = .ok (.iconst 5, 1) := by decide +kernel
theorem dX5_rest_18 : decode cX5_rest 18 = .ok (.if_icmp .ge 30, 3) := by decide +kernel
theorem dX5_rest_21 : decode cX5_rest 21 = .ok (.lload_n 3, 1) := by decide +kernel
theorem dX5_rest_22 : decode cX5_rest 22 = .ok (.aload_n 1, 1) := by decide +kernel
theorem dX5_rest_23 : decode cX5_rest 23 = .ok (.getfield 47, 3) := by decide +kernel
theorem dX5_rest_26 : decode cX5_rest 26 = .ok (.iload_n 2, 1) := by decide +kernel
theorem dX5_rest_27 : decode cX5_rest 27 = .ok (.aaload, 1) := by decide +kernel
theorem dX5_rest_28 : decode cX5_rest 28 = .ok (.iload 5, 2) := by decide +kernel
theorem dX5_rest_30 : decode cX5_rest 30 = .ok (.iaload, 1) := by decide +kernel
theorem dX5_rest_31 : decode cX5_rest 31 = .ok (.i2l, 1) := by decide +kernel
theorem dX5_rest_32 : decode cX5_rest 32 = .ok (.aload_n 0, 1) := by decide +kernel
theorem dX5_rest_33 : decode cX5_rest 33 = .ok (.getfield 15, 3) := by decide +kernel
theorem dX5_rest_36 : decode cX5_rest 36 = .ok (.iload 5, 2) := by decide +kernel
theorem dX5_rest_38 : decode cX5_rest 38 = .ok (.laload, 1) := by decide +kernel
theorem dX5_rest_39 : decode cX5_rest 39 = .ok (.lmul, 1) := by decide +kernel
theorem dX5_rest_40 : decode cX5_rest 40 = .ok (.lsub, 1) := by decide +kernel
theorem dX5_rest_41 : decode cX5_rest 41 = .ok (.lstore_n 3, 1) := by decide +kernel
theorem dX5_rest_42 : decode cX5_rest 42 = .ok (.iinc 5 1, 3) := by decide +kernel
theorem dX5_rest_45 : decode cX5_rest 45 = .ok (.goto (-30), 3) := by decide +kernel
theorem dX5_rest_48 : decode cX5_rest 48 = .ok (.lload_n 3, 1) := by decide +kernel
theorem dX5_rest_49 : decode cX5_rest 49 = .ok (.lconst 0, 1) := by decide +kernel
theorem dX5_rest_50 : decode cX5_rest 50 = .ok (.invokestatic 67, 3) := by decide +kernel
theorem dX5_rest_53 : decode cX5_rest 53 = .ok (.lreturn, 1) := by decide +kernel
theorem dX6_init_0 : decode cX6_init 0 = .ok (.aload_n 0, 1) := by decide +kernel
theorem dX6_init_1 : decode cX6_init 1 = .ok (.invokespecial 1, 3) := by decide +kernel
theorem dX6_init_4 : decode cX6_init 4 = .ok (.aload_n 0, 1) := by decide +kernel
