theorem dX6_init_5 : decode cX6_init 5 = .ok (.new 7, 3) := by decide +kernel
theorem dX6_init_8 : decode cX6_init 8 = .ok (.dup, 1) := by decide +kernel
theorem dX6_init_9 : decode cX6_init 9 = .ok (.invokespecial 9, 3) := by decide +kernel
theorem dX6_init_12 : decode cX6_init 12 = .ok (.putfield 10, 3) := by decide +kernel
theorem dX6_init_15 : decode cX6_init 15 = .ok (.aload_n 0, 1) := by decide +kernel
theorem dX6_init_16 : decode cX6_init 16 = .ok (.new 16, 3) := by decide +kernel
theorem dX6_init_19 : decode cX6_init 19 = .ok (.dup, 1) := by decide +kernel
theorem dX6_init_20 : decode cX6_init 20 = .ok (.invokespecial 18, 3) := by decide +kernel
theorem dX6_init_23 : decode cX6_init 23 = .ok (.putfield 19, 3) := by decide +kernel
theorem dX6_init_26 : decode cX6_init 26 = .ok (.aload_n 0, 1) := by decide +kernel
theorem dX6_init_27 : decode cX6_init 27 = .ok (.new 23, 3) := by decide +kernel
theorem dX6_init_30 : decode cX6_init 30 = .ok (.dup, 1) := by decide +kernel
theorem dX6_init_31 : decode cX6_init 31 = .ok (.invokespecial 25, 3) := by decide +kernel
theorem dX6_init_34 : decode cX6_init 34 = .ok (.putfield 26, 3) := by decide +kernel
theorem dX6_init_37 : decode cX6_init 37 = .ok (.aload_n 0, 1) := by decide +kernel
theorem dX6_init_38 : decode cX6_init 38 = .ok (.new 30, 3) := by decide +kernel
theorem dX6_init_41 : decode cX6_init 41 = .ok (.dup, 1) := by decide +kernel
theorem dX6_init_42 : decode cX6_init 42 = .ok (.invokespecial 32, 3) := by decide +kernel
theorem dX6_init_45 : decode cX6_init 45 = .ok (.putfield 33, 3) := by decide +kernel
theorem dX6_init_48 : decode cX6_init 48 = .ok (.aload_n 0, 1) := by decide +kernel
theorem dX6_init_49 : decode cX6_init 49 = .ok (.new 30, 3) := by decide +kernel
theorem dX6_init_52 : decode cX6_init 52 = .ok (.dup, 1) := by decide +kernel
theorem dX6_init_53 : decode cX6_init 53 = .ok (.invokespecial 32, 3) := by decide +kernel
theorem dX6_init_56 : decode cX6_init 56 = .ok (.putfield 37, 3) := by decide +kernel
theorem dX6_init_59 : decode cX6_init 59 = .ok (.aload_n 0, 1) := by decide +kernel
theorem dX6_init_60 : decode cX6_init 60 = .ok (.new 30, 3) := by decide +kernel
theorem dX6_init_63 : decode cX6_init 63 = .ok (.dup, 1) := by decide +kernel
theorem dX6_init_64 : decode cX6_init 64 = .ok (.invokespecial 32, 3) := by decide +kernel
theorem dX6_init_67 : decode cX6_init 67 = .ok (.putfield 40, 3) := by decide +kernel
theorem dX6_init_70 : decode cX6_init 70 = .ok (.aload_n 0, 1) := by decide +kernel
theorem dX6_init_71 : decode cX6_init 71 = .ok (.new 43, 3) := by decide +kernel
theorem dX6_init_74 : decode cX6_init 74 = .ok (.dup, 1) := by decide +kernel
theorem dX6_init_75 : decode cX6_init 75 = .ok (.invokespecial 45, 3) := by decide +kernel
theorem dX6_init_78 : decode cX6_init 78 = .ok (.putfield 46, 3) := by decide +kernel
theorem dX6_init_81 : decode cX6_init 81 = .ok (.aload_n 0, 1) := by decide +kernel
theorem dX6_init_82 : decode cX6_init 82 = .ok (.new 50, 3) := by decide +kernel
theorem dX6_init_85 : decode cX6_init 85 = .ok (.dup, 1) := by decide +kernel
theorem dX6_init_86 : decode cX6_init 86 = .ok (.invokespecial 52, 3) := by decide +kernel
theorem dX6_init_89 : decode cX6_init 89 = .ok (.putfield 53, 3) := by decide +kernel
theorem dX6_init_92 : decode cX6_init 92 = .ok (.aload_n 0, 1) := by decide +kernel
theorem dX6_init_93 : decode cX6_init 93 = .ok (.new 50, 3) := by decide +kernel
theorem dX6_init_96 : decode cX6_init 96 = .ok (.dup, 1) := by decide +kernel
theorem dX6_init_97 : decode cX6_init 97 = .ok (.invokespecial 52, 3) := by decide +kernel
theorem dX6_init_100 : decode cX6_init 100 = .ok (.putfield 57, 3) := by decide +kernel
theorem dX6_init_103 : decode cX6_init 103 = .ok (.aload_n 0, 1) := by decide +kernel
theorem dX6_init_104 : decode cX6_init 104 = .ok (.iconst 0, 1) := by decide +kernel
theorem dX6_init_105 : decode cX6_init 105 = .ok (.putfield 60, 3) := by decide +kernel
theorem dX6_init_108 : decode cX6_init 108 = .ok (.aload_n 0, 1) := by decide +kernel
theorem dX6_init_109 : decode cX6_init 109 = .ok (.iconst 0, 1) := by decide +kernel
theorem dX6_init_110 : decode cX6_init 110 = .ok (.putfield 64, 3) := by decide +kernel
theorem dX6_init_113 : decode cX6_init 113 = .ok (.aload_n 0, 1) := by decide +kernel
theorem dX6_init_114 : decode cX6_init 114 = .ok (.lconst 0, 1) := by decide +kernel
theorem dX6_init_115 : decode cX6_init 115 = .ok (.putfield 67, 3) := by decide +kernel
theorem dX6_init_118 : decode cX6_init 118 = .ok (.return_, 1) := by decide +kernel
theorem dX6_type_0 : decode cX6_type 0 = .ok (.iload_n 3, 1) := by decide +kernel
theorem dX6_type_1 : decode cX6_type 1 = .ok (.iconst 1, 1) := by decide +kernel
theorem dX6_type_2 : decode cX6_type 2 = .ok (.if_icmp .lt 9, 3) := by decide +kernel
theorem dX6_type_5 : decode cX6_type 5 = .ok (.iload_n 3, 1) := by decide +kernel
theorem dX6_type_6 : decode cX6_type 6 = .ok (.bipush 8, 2) := by decide +kernel
theorem dX6_type_8 : decode cX6_type 8 = .ok (.if_icmp .le 5, 3) := by decide +kernel
theorem dX6_type_11 : decode cX6_type 11 = .ok (.iconst (-1), 1) := by decide +kernel
theorem dX6_type_12 : decode cX6_type 12 = .ok (.ireturn, 1) := by decide +kernel
theorem dX6_type_13 : decode cX6_type 13 = .ok (.aload_n 0, 1) := by decide +kernel
theorem dX6_type_14 : decode cX6_type 14 = .ok (.getfield 10, 3) := by decide +kernel
theorem dX6_type_17 : decode cX6_type 17 = .ok (.lload_n 1, 1) := by decide +kernel
theorem dX6_type_18 : decode cX6_type 18 = .ok (.iload_n 3, 1) := by decide +kernel
theorem dX6_type_19 : decode cX6_type 19 = .ok (.invokevirtual 71, 3) := by decide +kernel
theorem dX6_type_22 : decode cX6_type 22 = .ok (.ireturn, 1) := by decide +kernel
theorem dX6_clear_0 : decode cX6_clear 0 = .ok (.aload_n 0, 1) := by decide +kernel
theorem dX6_clear_1 : decode cX6_clear 1 = .ok (.getfield 10, 3) := by decide +kernel
theorem dX6_clear_4 : decode cX6_clear 4 = .ok (.getfield 75, 3) := by decide +kernel
theorem dX6_clear_7 : decode cX6_clear 7 = .ok (.istore_n 1, 1) := by decide +kernel
theorem dX6_clear_8 : decode cX6_clear 8 = .ok (.aload_n 0, 1) := by decide +kernel
theorem dX6_clear_9 : decode cX6_clear 9 = .ok (.getfield 10, 3) := by decide +kernel
theorem dX6_clear_12 : decode cX6_clear 12 = .ok (.iconst 0, 1) := by decide +kernel
theorem dX6_clear_13 : decode cX6_clear 13 = .ok (.putfield 75, 3) := by decide +kernel
theorem dX6_clear_16 : decode cX6_clear 16 = .ok (.iload_n 1, 1) := by decide +kernel
theorem dX6_clear_17 : decode cX6_clear 17 = .ok (.ireturn, 1) := by decide +kernel
theorem dX6_table_0 : decode cX6_table 0 = .ok (.aload_n 0, 1) := by decide +kernel
theorem dX6_table_1 : decode cX6_table 1 = .ok (.getfield 10, 3) := by decide +kernel
theorem dX6_table_4 : decode cX6_table 4 = .ok (.aload_n 0, 1) := by decide +kernel
theorem dX6_table_5 : decode cX6_table 5 = .ok (.getfield 57, 3) := by decide +kernel
theorem dX6_table_8 : decode cX6_table 8 = .ok (.invokevirtual 79, 3) := by decide +kernel
theorem dX6_table_11 : decode cX6_table 11 = .ok (.istore_n 1, 1) := by decide +kernel
theorem dX6_table_12 : decode cX6_table 12 = .ok (.iload_n 1, 1) := by decide +kernel
theorem dX6_table_13 : decode cX6_table 13 = .ok (.ifCond .ge 5, 3) := by decide +kernel
theorem dX6_table_16 : decode cX6_table 16 = .ok (.iload_n 1, 1) := by decide +kernel
theorem dX6_table_17 : decode cX6_table 17 = .ok (.ireturn, 1) := by decide +kernel
theorem dX6_table_18 : decode cX6_table 18 = .ok (.aload_n 0, 1) := by decide +kernel
theorem dX6_table_19 : decode cX6_table 19 = .ok (.getfield 53, 3) := by decide +kernel
theorem dX6_table_22 : decode cX6_table 22 = .ok (.astore_n 2, 1) := by decide +kernel
theorem dX6_table_23 : decode cX6_table 23 = .ok (.aload_n 0, 1) := by decide +kernel
theorem dX6_table_24 : decode cX6_table 24 = .ok (.aload_n 0, 1) := by decide +kernel
theorem dX6_table_25 : decode cX6_table 25 = .ok (.getfield 57, 3) := by decide +kernel
theorem dX6_table_28 : decode cX6_table 28 = .ok (.putfield 53, 3) := by decide +kernel
theorem dX6_table_31 : decode cX6_table 31 = .ok (.aload_n 0, 1) := by decide +kernel
theorem dX6_table_32 : decode cX6_table 32 = .ok (.aload_n 2, 1) := by decide +kernel
theorem dX6_table_33 : decode cX6_table 33 = .ok (.putfield 57, 3) := by decide +kernel
theorem dX6_table_36 : decode cX6_table 36 = .ok (.aload_n 0, 1) := by decide +kernel
theorem dX6_table_37 : decode cX6_table 37 = .ok (.getfield 10, 3) := by decide +kernel
theorem dX6_table_40 : decode cX6_table 40 = .ok (.iconst 0, 1) := by decide +kernel
theorem dX6_table_41 : decode cX6_table 41 = .ok (.putfield 75, 3) := by decide +kernel
theorem dX6_table_44 : decode cX6_table 44 = .ok (.aload_n 0, 1) := by decide +kernel
theorem dX6_table_45 : decode cX6_table 45 = .ok (.getfield 19, 3) := by decide +kernel
theorem dX6_table_48 : decode cX6_table 48 = .ok (.invokevirtual 83, 3) := by decide +kernel
theorem dX6_table_51 : decode cX6_table 51 = .ok (.aload_n 0, 1) := by decide +kernel
theorem dX6_table_52 : decode cX6_table 52 = .ok (.invokevirtual 86, 3) := by decide +kernel
theorem dX6_table_55 : decode cX6_table 55 = .ok (.iload_n 1, 1) := by decide +kernel
theorem dX6_table_56 : decode cX6_table 56 = .ok (.ireturn, 1) := by decide +kernel
theorem dX6_gate_0 : decode cX6_gate 0 = .ok (.aload_n 0, 1) := by decide +kernel
theorem dX6_gate_1 : decode cX6_gate 1 = .ok (.getfield 53, 3) := by decide +kernel
theorem dX6_gate_4 : decode cX6_gate 4 = .ok (.iload_n 1, 1) := by decide +kernel
theorem dX6_gate_5 : decode cX6_gate 5 = .ok (.invokevirtual 89, 3) := by decide +kernel
theorem dX6_gate_8 : decode cX6_gate 8 = .ok (.istore_n 3, 1) := by decide +kernel
theorem dX6_gate_9 : decode cX6_gate 9 = .ok (.iload_n 3, 1) := by decide +kernel
theorem dX6_gate_10 : decode cX6_gate 10 = .ok (.ifCond .ge 5, 3) := by decide +kernel
theorem dX6_gate_13 : decode cX6_gate 13 = .ok (.iconst (-1), 1) := by decide +kernel
theorem dX6_gate_14 : decode cX6_gate 14 = .ok (.ireturn, 1) := by decide +kernel
theorem dX6_gate_15 : decode cX6_gate 15 = .ok (.iload_n 2, 1) := by decide +kernel
theorem dX6_gate_16 : decode cX6_gate 16 = .ok (.tableswitch 70 0 3 #[32, 34, 47, 57], 32) := by decide +kernel
theorem dX6_gate_48 : decode cX6_gate 48 = .ok (.iload_n 3, 1) := by decide +kernel
theorem dX6_gate_49 : decode cX6_gate 49 = .ok (.ireturn, 1) := by decide +kernel
theorem dX6_gate_50 : decode cX6_gate 50 = .ok (.aload_n 0, 1) := by decide +kernel
theorem dX6_gate_51 : decode cX6_gate 51 = .ok (.getfield 53, 3) := by decide +kernel
theorem dX6_gate_54 : decode cX6_gate 54 = .ok (.getfield 93, 3) := by decide +kernel
theorem dX6_gate_57 : decode cX6_gate 57 = .ok (.iload_n 3, 1) := by decide +kernel
theorem dX6_gate_58 : decode cX6_gate 58 = .ok (.baload, 1) := by decide +kernel
theorem dX6_gate_59 : decode cX6_gate 59 = .ok (.invokestatic 97, 3) := by decide +kernel
theorem dX6_gate_62 : decode cX6_gate 62 = .ok (.ireturn, 1) := by decide +kernel
theorem dX6_gate_63 : decode cX6_gate 63 = .ok (.aload_n 0, 1) := by decide +kernel
theorem dX6_gate_64 : decode cX6_gate 64 = .ok (.getfield 53, 3) := by decide +kernel
theorem dX6_gate_67 : decode cX6_gate 67 = .ok (.getfield 101, 3) := by decide +kernel
theorem dX6_gate_70 : decode cX6_gate 70 = .ok (.iload_n 3, 1) := by decide +kernel
theorem dX6_gate_71 : decode cX6_gate 71 = .ok (.iaload, 1) := by decide +kernel
theorem dX6_gate_72 : decode cX6_gate 72 = .ok (.ireturn, 1) := by decide +kernel
theorem dX6_gate_73 : decode cX6_gate 73 = .ok (.aload_n 0, 1) := by decide +kernel
theorem dX6_gate_74 : decode cX6_gate 74 = .ok (.getfield 53, 3) := by decide +kernel
theorem dX6_gate_77 : decode cX6_gate 77 = .ok (.getfield 105, 3) := by decide +kernel
theorem dX6_gate_80 : decode cX6_gate 80 = .ok (.iload_n 3, 1) := by decide +kernel
theorem dX6_gate_81 : decode cX6_gate 81 = .ok (.baload, 1) := by decide +kernel
theorem dX6_gate_82 : decode cX6_gate 82 = .ok (.invokestatic 97, 3) := by decide +kernel
theorem dX6_gate_85 : decode cX6_gate 85 = .ok (.ireturn, 1) := by decide +kernel
theorem dX6_gate_86 : decode cX6_gate 86 = .ok (.iconst (-1), 1) := by decide +kernel
theorem dX6_gate_87 : decode cX6_gate 87 = .ok (.ireturn, 1) := by decide +kernel
theorem dX6_wish_0 : decode cX6_wish 0 = .ok (.aload_n 0, 1) := by decide +kernel
theorem dX6_wish_1 : decode cX6_wish 1 = .ok (.iload_n 1, 1) := by decide +kernel
theorem dX6_wish_2 : decode cX6_wish 2 = .ok (.invokevirtual 108, 3) := by decide +kernel
theorem dX6_wish_5 : decode cX6_wish 5 = .ok (.ifCond .ne 5, 3) := by decide +kernel
theorem dX6_wish_8 : decode cX6_wish 8 = .ok (.iconst (-1), 1) := by decide +kernel
theorem dX6_wish_9 : decode cX6_wish 9 = .ok (.ireturn, 1) := by decide +kernel
theorem dX6_wish_10 : decode cX6_wish 10 = .ok (.iload_n 2, 1) := by decide +kernel
theorem dX6_wish_11 : decode cX6_wish 11 = .ok (.tableswitch 72 0 3 #[29, 39, 49, 59], 29) := by decide +kernel
theorem dX6_wish_40 : decode cX6_wish 40 = .ok (.aload_n 0, 1) := by decide +kernel
theorem dX6_wish_41 : decode cX6_wish 41 = .ok (.getfield 53, 3) := by decide +kernel
theorem dX6_wish_44 : decode cX6_wish 44 = .ok (.getfield 112, 3) := by decide +kernel
theorem dX6_wish_47 : decode cX6_wish 47 = .ok (.iload_n 1, 1) := by decide +kernel
theorem dX6_wish_48 : decode cX6_wish 48 = .ok (.iaload, 1) := by decide +kernel
theorem dX6_wish_49 : decode cX6_wish 49 = .ok (.ireturn, 1) := by decide +kernel
theorem dX6_wish_50 : decode cX6_wish 50 = .ok (.aload_n 0, 1) := by decide +kernel
theorem dX6_wish_51 : decode cX6_wish 51 = .ok (.getfield 53, 3) := by decide +kernel
theorem dX6_wish_54 : decode cX6_wish 54 = .ok (.getfield 115, 3) := by decide +kernel
theorem dX6_wish_57 : decode cX6_wish 57 = .ok (.iload_n 1, 1) := by decide +kernel
theorem dX6_wish_58 : decode cX6_wish 58 = .ok (.iaload, 1) := by decide +kernel
theorem dX6_wish_59 : decode cX6_wish 59 = .ok (.ireturn, 1) := by decide +kernel
theorem dX6_wish_60 : decode cX6_wish 60 = .ok (.aload_n 0, 1) := by decide +kernel
theorem dX6_wish_61 : decode cX6_wish 61 = .ok (.getfield 53, 3) := by decide +kernel
theorem dX6_wish_64 : decode cX6_wish 64 = .ok (.getfield 118, 3) := by decide +kernel
theorem dX6_wish_67 : decode cX6_wish 67 = .ok (.iload_n 1, 1) := by decide +kernel
theorem dX6_wish_68 : decode cX6_wish 68 = .ok (.iaload, 1) := by decide +kernel
theorem dX6_wish_69 : decode cX6_wish 69 = .ok (.ireturn, 1) := by decide +kernel
theorem dX6_wish_70 : decode cX6_wish 70 = .ok (.aload_n 0, 1) := by decide +kernel
theorem dX6_wish_71 : decode cX6_wish 71 = .ok (.getfield 53, 3) := by decide +kernel
theorem dX6_wish_74 : decode cX6_wish 74 = .ok (.getfield 121, 3) := by decide +kernel
theorem dX6_wish_77 : decode cX6_wish 77 = .ok (.iload_n 1, 1) := by decide +kernel
theorem dX6_wish_78 : decode cX6_wish 78 = .ok (.baload, 1) := by decide +kernel
theorem dX6_wish_79 : decode cX6_wish 79 = .ok (.invokestatic 97, 3) := by decide +kernel
theorem dX6_wish_82 : decode cX6_wish 82 = .ok (.ireturn, 1) := by decide +kernel
theorem dX6_wish_83 : decode cX6_wish 83 = .ok (.iconst (-1), 1) := by decide +kernel
theorem dX6_wish_84 : decode cX6_wish 84 = .ok (.ireturn, 1) := by decide +kernel
theorem dX6_uses_0 : decode cX6_uses 0 = .ok (.aload_n 0, 1) := by decide +kernel
theorem dX6_uses_1 : decode cX6_uses 1 = .ok (.getfield 53, 3) := by decide +kernel
theorem dX6_uses_4 : decode cX6_uses 4 = .ok (.iload_n 2, 1) := by decide +kernel
theorem dX6_uses_5 : decode cX6_uses 5 = .ok (.invokevirtual 89, 3) := by decide +kernel
theorem dX6_uses_8 : decode cX6_uses 8 = .ok (.istore_n 3, 1) := by decide +kernel
theorem dX6_uses_9 : decode cX6_uses 9 = .ok (.aload_n 0, 1) := by decide +kernel
theorem dX6_uses_10 : decode cX6_uses 10 = .ok (.iload_n 1, 1) := by decide +kernel
theorem dX6_uses_11 : decode cX6_uses 11 = .ok (.invokevirtual 108, 3) := by decide +kernel
theorem dX6_uses_14 : decode cX6_uses 14 = .ok (.ifCond .eq 7, 3) := by decide +kernel
theorem dX6_uses_17 : decode cX6_uses 17 = .ok (.iload_n 3, 1) := by decide +kernel
theorem dX6_uses_18 : decode cX6_uses 18 = .ok (.ifCond .ge 5, 3) := by decide +kernel
theorem dX6_uses_21 : decode cX6_uses 21 = .ok (.iconst (-1), 1) := by decide +kernel
theorem dX6_uses_22 : decode cX6_uses 22 = .ok (.ireturn, 1) := by decide +kernel
theorem dX6_uses_23 : decode cX6_uses 23 = .ok (.aload_n 0, 1) := by decide +kernel
theorem dX6_uses_24 : decode cX6_uses 24 = .ok (.getfield 53, 3) := by decide +kernel
theorem dX6_uses_27 : decode cX6_uses 27 = .ok (.getfield 124, 3) := by decide +kernel
theorem dX6_uses_30 : decode cX6_uses 30 = .ok (.iload_n 1, 1) := by decide +kernel
theorem dX6_uses_31 : decode cX6_uses 31 = .ok (.aaload, 1) := by decide +kernel
theorem dX6_uses_32 : decode cX6_uses 32 = .ok (.iload_n 3, 1) := by decide +kernel
theorem dX6_uses_33 : decode cX6_uses 33 = .ok (.iaload, 1) := by decide +kernel
theorem dX6_uses_34 : decode cX6_uses 34 = .ok (.ireturn, 1) := by decide +kernel
theorem dX6_jam_0 : decode cX6_jam 0 = .ok (.aload_n 0, 1) := by decide +kernel
theorem dX6_jam_1 : decode cX6_jam 1 = .ok (.getfield 53, 3) := by decide +kernel
theorem dX6_jam_4 : decode cX6_jam 4 = .ok (.iload_n 1, 1) := by decide +kernel
theorem dX6_jam_5 : decode cX6_jam 5 = .ok (.invokevirtual 89, 3) := by decide +kernel
theorem dX6_jam_8 : decode cX6_jam 8 = .ok (.istore_n 3, 1) := by decide +kernel
theorem dX6_jam_9 : decode cX6_jam 9 = .ok (.iload_n 3, 1) := by decide +kernel
theorem dX6_jam_10 : decode cX6_jam 10 = .ok (.ifCond .lt 13, 3) := by decide +kernel
theorem dX6_jam_13 : decode cX6_jam 13 = .ok (.iload_n 2, 1) := by decide +kernel
theorem dX6_jam_14 : decode cX6_jam 14 = .ok (.ifCond .lt 9, 3) := by decide +kernel
theorem dX6_jam_17 : decode cX6_jam 17 = .ok (.iload_n 2, 1) := by decide +kernel
theorem dX6_jam_18 : decode cX6_jam 18 = .ok (.bipush 99, 2) := by decide +kernel
theorem dX6_jam_20 : decode cX6_jam 20 = .ok (.if_icmp .le 5, 3) := by decide +kernel
theorem dX6_jam_23 : decode cX6_jam 23 = .ok (.iconst (-1), 1) := by decide +kernel
theorem dX6_jam_24 : decode cX6_jam 24 = .ok (.ireturn, 1) := by decide +kernel
theorem dX6_jam_25 : decode cX6_jam 25 = .ok (.aload_n 0, 1) := by decide +kernel
theorem dX6_jam_26 : decode cX6_jam 26 = .ok (.getfield 53, 3) := by decide +kernel
theorem dX6_jam_29 : decode cX6_jam 29 = .ok (.getfield 101, 3) := by decide +kernel
theorem dX6_jam_32 : decode cX6_jam 32 = .ok (.iload_n 3, 1) := by decide +kernel
theorem dX6_jam_33 : decode cX6_jam 33 = .ok (.iaload, 1) := by decide +kernel
theorem dX6_jam_34 : decode cX6_jam 34 = .ok (.istore 4, 2) := by decide +kernel
theorem dX6_jam_36 : decode cX6_jam 36 = .ok (.aload_n 0, 1) := by decide +kernel
theorem dX6_jam_37 : decode cX6_jam 37 = .ok (.getfield 53, 3) := by decide +kernel
theorem dX6_jam_40 : decode cX6_jam 40 = .ok (.getfield 101, 3) := by decide +kernel
theorem dX6_jam_43 : decode cX6_jam 43 = .ok (.iload_n 3, 1) := by decide +kernel
theorem dX6_jam_44 : decode cX6_jam 44 = .ok (.iload_n 2, 1) := by decide +kernel
theorem dX6_jam_45 : decode cX6_jam 45 = .ok (.iastore, 1) := by decide +kernel
theorem dX6_jam_46 : decode cX6_jam 46 = .ok (.aload_n 0, 1) := by decide +kernel
theorem dX6_jam_47 : decode cX6_jam 47 = .ok (.invokevirtual 86, 3) := by decide +kernel
theorem dX6_jam_50 : decode cX6_jam 50 = .ok (.iload 4, 2) := by decide +kernel
theorem dX6_jam_52 : decode cX6_jam 52 = .ok (.ireturn, 1) := by decide +kernel
theorem dX6_off_0 : decode cX6_off 0 = .ok (.iload_n 1, 1) := by decide +kernel
theorem dX6_off_1 : decode cX6_off 1 = .ok (.ifCond .lt 17, 3) := by decide +kernel
theorem dX6_off_4 : decode cX6_off 4 = .ok (.iload_n 1, 1) := by decide +kernel
theorem dX6_off_5 : decode cX6_off 5 = .ok (.iconst 1, 1) := by decide +kernel
theorem dX6_off_6 : decode cX6_off 6 = .ok (.if_icmp .gt 12, 3) := by decide +kernel
theorem dX6_off_9 : decode cX6_off 9 = .ok (.iload_n 3, 1) := by decide +kernel
theorem dX6_off_10 : decode cX6_off 10 = .ok (.ifCond .lt 8, 3) := by decide +kernel
theorem dX6_off_13 : decode cX6_off 13 = .ok (.iload_n 3, 1) := by decide +kernel
theorem dX6_off_14 : decode cX6_off 14 = .ok (.iconst 1, 1) := by decide +kernel
theorem dX6_off_15 : decode cX6_off 15 = .ok (.if_icmp .le 5, 3) := by decide +kernel
theorem dX6_off_18 : decode cX6_off 18 = .ok (.iconst (-1), 1) := by decide +kernel
theorem dX6_off_19 : decode cX6_off 19 = .ok (.ireturn, 1) := by decide +kernel
theorem dX6_off_20 : decode cX6_off 20 = .ok (.iload_n 1, 1) := by decide +kernel
theorem dX6_off_21 : decode cX6_off 21 = .ok (.ifCond .ne 14, 3) := by decide +kernel
theorem dX6_off_24 : decode cX6_off 24 = .ok (.aload_n 0, 1) := by decide +kernel
theorem dX6_off_25 : decode cX6_off 25 = .ok (.getfield 53, 3) := by decide +kernel
theorem dX6_off_28 : decode cX6_off 28 = .ok (.iload_n 2, 1) := by decide +kernel
theorem dX6_off_29 : decode cX6_off 29 = .ok (.invokevirtual 89, 3) := by decide +kernel
theorem dX6_off_32 : decode cX6_off 32 = .ok (.goto 16, 3) := by decide +kernel
theorem dX6_off_35 : decode cX6_off 35 = .ok (.aload_n 0, 1) := by decide +kernel
theorem dX6_off_36 : decode cX6_off 36 = .ok (.iload_n 2, 1) := by decide +kernel
theorem dX6_off_37 : decode cX6_off 37 = .ok (.invokevirtual 108, 3) := by decide +kernel
theorem dX6_off_40 : decode cX6_off 40 = .ok (.ifCond .eq 7, 3) := by decide +kernel
theorem dX6_off_43 : decode cX6_off 43 = .ok (.iload_n 2, 1) := by decide +kernel
theorem dX6_off_44 : decode cX6_off 44 = .ok (.goto 4, 3) := by decide +kernel
theorem dX6_off_47 : decode cX6_off 47 = .ok (.iconst (-1), 1) := by decide +kernel
theorem dX6_off_48 : decode cX6_off 48 = .ok (.istore 4, 2) := by decide +kernel
theorem dX6_off_50 : decode cX6_off 50 = .ok (.iload 4, 2) := by decide +kernel
theorem dX6_off_52 : decode cX6_off 52 = .ok (.ifCond .ge 5, 3) := by decide +kernel
theorem dX6_off_55 : decode cX6_off 55 = .ok (.iconst (-1), 1) := by decide +kernel
theorem dX6_off_56 : decode cX6_off 56 = .ok (.ireturn, 1) := by decide +kernel
theorem dX6_off_57 : decode cX6_off 57 = .ok (.iload_n 1, 1) := by decide +kernel
theorem dX6_off_58 : decode cX6_off 58 = .ok (.ifCond .ne 13, 3) := by decide +kernel
theorem dX6_off_61 : decode cX6_off 61 = .ok (.aload_n 0, 1) := by decide +kernel
theorem dX6_off_62 : decode cX6_off 62 = .ok (.getfield 53, 3) := by decide +kernel
theorem dX6_off_65 : decode cX6_off 65 = .ok (.getfield 105, 3) := by decide +kernel
theorem dX6_off_68 : decode cX6_off 68 = .ok (.goto 10, 3) := by decide +kernel
theorem dX6_off_71 : decode cX6_off 71 = .ok (.aload_n 0, 1) := by decide +kernel
theorem dX6_off_72 : decode cX6_off 72 = .ok (.getfield 53, 3) := by decide +kernel
theorem dX6_off_75 : decode cX6_off 75 = .ok (.getfield 121, 3) := by decide +kernel
theorem dX6_off_78 : decode cX6_off 78 = .ok (.astore 5, 2) := by decide +kernel
theorem dX6_off_80 : decode cX6_off 80 = .ok (.aload 5, 2) := by decide +kernel
theorem dX6_off_82 : decode cX6_off 82 = .ok (.iload 4, 2) := by decide +kernel
theorem dX6_off_84 : decode cX6_off 84 = .ok (.baload, 1) := by decide +kernel
theorem dX6_off_85 : decode cX6_off 85 = .ok (.invokestatic 97, 3) := by decide +kernel
theorem dX6_off_88 : decode cX6_off 88 = .ok (.istore 6, 2) := by decide +kernel
theorem dX6_off_90 : decode cX6_off 90 = .ok (.aload 5, 2) := by decide +kernel
theorem dX6_off_92 : decode cX6_off 92 = .ok (.iload 4, 2) := by decide +kernel
theorem dX6_off_94 : decode cX6_off 94 = .ok (.iload_n 3, 1) := by decide +kernel
theorem dX6_off_95 : decode cX6_off 95 = .ok (.iconst 1, 1) := by decide +kernel
theorem dX6_off_96 : decode cX6_off 96 = .ok (.if_icmp .ne 7, 3) := by decide +kernel
theorem dX6_off_99 : decode cX6_off 99 = .ok (.iconst 1, 1) := by decide +kernel
theorem dX6_off_100 : decode cX6_off 100 = .ok (.goto 4, 3) := by decide +kernel
theorem dX6_off_103 : decode cX6_off 103 = .ok (.iconst 0, 1) := by decide +kernel
theorem dX6_off_104 : decode cX6_off 104 = .ok (.bastore, 1) := by decide +kernel
theorem dX6_off_105 : decode cX6_off 105 = .ok (.aload_n 0, 1) := by decide +kernel
theorem dX6_off_106 : decode cX6_off 106 = .ok (.invokevirtual 86, 3) := by decide +kernel
theorem dX6_off_109 : decode cX6_off 109 = .ok (.iload 6, 2) := by decide +kernel
theorem dX6_off_111 : decode cX6_off 111 = .ok (.ireturn, 1) := by decide +kernel
theorem dX6_best_0 : decode cX6_best 0 = .ok (.aload_n 0, 1) := by decide +kernel
theorem dX6_best_1 : decode cX6_best 1 = .ok (.iload_n 1, 1) := by decide +kernel
theorem dX6_best_2 : decode cX6_best 2 = .ok (.invokevirtual 108, 3) := by decide +kernel
theorem dX6_best_5 : decode cX6_best 5 = .ok (.ifCond .eq 17, 3) := by decide +kernel
theorem dX6_best_8 : decode cX6_best 8 = .ok (.iload_n 2, 1) := by decide +kernel
theorem dX6_best_9 : decode cX6_best 9 = .ok (.invokestatic 128, 3) := by decide +kernel
theorem dX6_best_12 : decode cX6_best 12 = .ok (.ifCond .eq 10, 3) := by decide +kernel
theorem dX6_best_15 : decode cX6_best 15 = .ok (.iload_n 3, 1) := by decide +kernel
theorem dX6_best_16 : decode cX6_best 16 = .ok (.invokestatic 128, 3) := by decide +kernel
theorem dX6_best_19 : decode cX6_best 19 = .ok (.ifCond .ne 7, 3) := by decide +kernel
theorem dX6_best_22 : decode cX6_best 22 = .ok (.ldc2_w 131, 3) := by decide +kernel
theorem dX6_best_25 : decode cX6_best 25 = .ok (.lreturn, 1) := by decide +kernel
theorem dX6_best_26 : decode cX6_best 26 = .ok (.aload_n 0, 1) := by decide +kernel
theorem dX6_best_27 : decode cX6_best 27 = .ok (.iload_n 2, 1) := by decide +kernel
theorem dX6_best_28 : decode cX6_best 28 = .ok (.iconst 1, 1) := by decide +kernel
theorem dX6_best_29 : decode cX6_best 29 = .ok (.if_icmp .ne 7, 3) := by decide +kernel
theorem dX6_best_32 : decode cX6_best 32 = .ok (.iconst 1, 1) := by decide +kernel
theorem dX6_best_33 : decode cX6_best 33 = .ok (.goto 4, 3) := by decide +kernel
theorem dX6_best_36 : decode cX6_best 36 = .ok (.iconst 0, 1) := by decide +kernel
theorem dX6_best_37 : decode cX6_best 37 = .ok (.invokevirtual 133, 3) := by decide +kernel
theorem dX6_best_40 : decode cX6_best 40 = .ok (.astore 4, 2) := by decide +kernel
theorem dX6_best_42 : decode cX6_best 42 = .ok (.aload 4, 2) := by decide +kernel
theorem dX6_best_44 : decode cX6_best 44 = .ok (.getfield 137, 3) := by decide +kernel
theorem dX6_best_47 : decode cX6_best 47 = .ok (.ifCond .eq 22, 3) := by decide +kernel
theorem dX6_best_50 : decode cX6_best 50 = .ok (.aload 4, 2) := by decide +kernel
theorem dX6_best_52 : decode cX6_best 52 = .ok (.getfield 140, 3) := by decide +kernel
theorem dX6_best_55 : decode cX6_best 55 = .ok (.iload_n 1, 1) := by decide +kernel
theorem dX6_best_56 : decode cX6_best 56 = .ok (.laload, 1) := by decide +kernel
theorem dX6_best_57 : decode cX6_best 57 = .ok (.aload 4, 2) := by decide +kernel
theorem dX6_best_59 : decode cX6_best 59 = .ok (.getfield 144, 3) := by decide +kernel
theorem dX6_best_62 : decode cX6_best 62 = .ok (.iload_n 3, 1) := by decide +kernel
theorem dX6_best_63 : decode cX6_best 63 = .ok (.invokestatic 147, 3) := by decide +kernel
theorem dX6_best_66 : decode cX6_best 66 = .ok (.goto 6, 3) := by decide +kernel
theorem dX6_best_69 : decode cX6_best 69 = .ok (.ldc2_w 131, 3) := by decide +kernel
theorem dX6_best_72 : decode cX6_best 72 = .ok (.lreturn, 1) := by decide +kernel
theorem dX6_worth_0 : decode cX6_worth 0 = .ok (.iload_n 1, 1) := by decide +kernel
theorem dX6_worth_1 : decode cX6_worth 1 = .ok (.invokestatic 128, 3) := by decide +kernel
theorem dX6_worth_4 : decode cX6_worth 4 = .ok (.ifCond .eq 10, 3) := by decide +kernel
theorem dX6_worth_7 : decode cX6_worth 7 = .ok (.iload_n 2, 1) := by decide +kernel
theorem dX6_worth_8 : decode cX6_worth 8 = .ok (.invokestatic 128, 3) := by decide +kernel
theorem dX6_worth_11 : decode cX6_worth 11 = .ok (.ifCond .ne 7, 3) := by decide +kernel
theorem dX6_worth_14 : decode cX6_worth 14 = .ok (.ldc2_w 131, 3) := by decide +kernel
theorem dX6_worth_17 : decode cX6_worth 17 = .ok (.lreturn, 1) := by decide +kernel
theorem dX6_worth_18 : decode cX6_worth 18 = .ok (.aload_n 0, 1) := by decide +kernel
theorem dX6_worth_19 : decode cX6_worth 19 = .ok (.iload_n 1, 1) := by decide +kernel
theorem dX6_worth_20 : decode cX6_worth 20 = .ok (.iconst 1, 1) := by decide +kernel
theorem dX6_worth_21 : decode cX6_worth 21 = .ok (.if_icmp .ne 7, 3) := by decide +kernel
theorem dX6_worth_24 : decode cX6_worth 24 = .ok (.iconst 1, 1) := by decide +kernel
theorem dX6_worth_25 : decode cX6_worth 25 = .ok (.goto 4, 3) := by decide +kernel
theorem dX6_worth_28 : decode cX6_worth 28 = .ok (.iconst 0, 1) := by decide +kernel
theorem dX6_worth_29 : decode cX6_worth 29 = .ok (.invokevirtual 133, 3) := by decide +kernel
theorem dX6_worth_32 : decode cX6_worth 32 = .ok (.astore_n 3, 1) := by decide +kernel
theorem dX6_worth_33 : decode cX6_worth 33 = .ok (.aload_n 3, 1) := by decide +kernel
theorem dX6_worth_34 : decode cX6_worth 34 = .ok (.getfield 137, 3) := by decide +kernel
theorem dX6_worth_37 : decode cX6_worth 37 = .ok (.ifCond .eq 18, 3) := by decide +kernel
theorem dX6_worth_40 : decode cX6_worth 40 = .ok (.aload_n 3, 1) := by decide +kernel
theorem dX6_worth_41 : decode cX6_worth 41 = .ok (.getfield 151, 3) := by decide +kernel
theorem dX6_worth_44 : decode cX6_worth 44 = .ok (.aload_n 3, 1) := by decide +kernel
theorem dX6_worth_45 : decode cX6_worth 45 = .ok (.getfield 144, 3) := by decide +kernel
theorem dX6_worth_48 : decode cX6_worth 48 = .ok (.iload_n 2, 1) := by decide +kernel
theorem dX6_worth_49 : decode cX6_worth 49 = .ok (.invokestatic 147, 3) := by decide +kernel
theorem dX6_worth_52 : decode cX6_worth 52 = .ok (.goto 6, 3) := by decide +kernel
theorem dX6_worth_55 : decode cX6_worth 55 = .ok (.ldc2_w 131, 3) := by decide +kernel
theorem dX6_worth_58 : decode cX6_worth 58 = .ok (.lreturn, 1) := by decide +kernel
theorem dX6_gap_0 : decode cX6_gap 0 = .ok (.iload_n 1, 1) := by decide +kernel
theorem dX6_gap_1 : decode cX6_gap 1 = .ok (.invokestatic 128, 3) := by decide +kernel
theorem dX6_gap_4 : decode cX6_gap 4 = .ok (.ifCond .ne 7, 3) := by decide +kernel
theorem dX6_gap_7 : decode cX6_gap 7 = .ok (.ldc2_w 131, 3) := by decide +kernel
theorem dX6_gap_10 : decode cX6_gap 10 = .ok (.lreturn, 1) := by decide +kernel
theorem dX6_gap_11 : decode cX6_gap 11 = .ok (.aload_n 0, 1) := by decide +kernel
theorem dX6_gap_12 : decode cX6_gap 12 = .ok (.iconst 0, 1) := by decide +kernel
theorem dX6_gap_13 : decode cX6_gap 13 = .ok (.invokevirtual 133, 3) := by decide +kernel
theorem dX6_gap_16 : decode cX6_gap 16 = .ok (.astore_n 2, 1) := by decide +kernel
theorem dX6_gap_17 : decode cX6_gap 17 = .ok (.aload_n 0, 1) := by decide +kernel
theorem dX6_gap_18 : decode cX6_gap 18 = .ok (.iconst 1, 1) := by decide +kernel
theorem dX6_gap_19 : decode cX6_gap 19 = .ok (.invokevirtual 133, 3) := by decide +kernel
theorem dX6_gap_22 : decode cX6_gap 22 = .ok (.astore_n 3, 1) := by decide +kernel
theorem dX6_gap_23 : decode cX6_gap 23 = .ok (.aload_n 2, 1) := by decide +kernel
theorem dX6_gap_24 : decode cX6_gap 24 = .ok (.getfield 137, 3) := by decide +kernel
theorem dX6_gap_27 : decode cX6_gap 27 = .ok (.ifCond .eq 10, 3) := by decide +kernel
theorem dX6_gap_30 : decode cX6_gap 30 = .ok (.aload_n 3, 1) := by decide +kernel
theorem dX6_gap_31 : decode cX6_gap 31 = .ok (.getfield 137, 3) := by decide +kernel
theorem dX6_gap_34 : decode cX6_gap 34 = .ok (.ifCond .ne 7, 3) := by decide +kernel
theorem dX6_gap_37 : decode cX6_gap 37 = .ok (.ldc2_w 131, 3) := by decide +kernel
theorem dX6_gap_40 : decode cX6_gap 40 = .ok (.lreturn, 1) := by decide +kernel
theorem dX6_gap_41 : decode cX6_gap 41 = .ok (.aload_n 3, 1) := by decide +kernel
theorem dX6_gap_42 : decode cX6_gap 42 = .ok (.getfield 151, 3) := by decide +kernel
theorem dX6_gap_45 : decode cX6_gap 45 = .ok (.aload_n 3, 1) := by decide +kernel
theorem dX6_gap_46 : decode cX6_gap 46 = .ok (.getfield 144, 3) := by decide +kernel
theorem dX6_gap_49 : decode cX6_gap 49 = .ok (.aload_n 2, 1) := by decide +kernel
theorem dX6_gap_50 : decode cX6_gap 50 = .ok (.getfield 151, 3) := by decide +kernel
theorem dX6_gap_53 : decode cX6_gap 53 = .ok (.aload_n 2, 1) := by decide +kernel
theorem dX6_gap_54 : decode cX6_gap 54 = .ok (.getfield 144, 3) := by decide +kernel
theorem dX6_gap_57 : decode cX6_gap 57 = .ok (.iload_n 1, 1) := by decide +kernel
theorem dX6_gap_58 : decode cX6_gap 58 = .ok (.invokestatic 153, 3) := by decide +kernel
theorem dX6_gap_61 : decode cX6_gap 61 = .ok (.lreturn, 1) := by decide +kernel
theorem dX6_more_0 : decode cX6_more 0 = .ok (.aload_n 0, 1) := by decide +kernel
theorem dX6_more_1 : decode cX6_more 1 = .ok (.getfield 53, 3) := by decide +kernel
theorem dX6_more_4 : decode cX6_more 4 = .ok (.iload_n 1, 1) := by decide +kernel
theorem dX6_more_5 : decode cX6_more 5 = .ok (.invokevirtual 89, 3) := by decide +kernel
theorem dX6_more_8 : decode cX6_more 8 = .ok (.istore_n 3, 1) := by decide +kernel
theorem dX6_more_9 : decode cX6_more 9 = .ok (.iload_n 3, 1) := by decide +kernel
theorem dX6_more_10 : decode cX6_more 10 = .ok (.ifCond .lt 22, 3) := by decide +kernel
theorem dX6_more_13 : decode cX6_more 13 = .ok (.aload_n 0, 1) := by decide +kernel
theorem dX6_more_14 : decode cX6_more 14 = .ok (.getfield 53, 3) := by decide +kernel
theorem dX6_more_17 : decode cX6_more 17 = .ok (.getfield 105, 3) := by decide +kernel
theorem dX6_more_20 : decode cX6_more 20 = .ok (.iload_n 3, 1) := by decide +kernel
theorem dX6_more_21 : decode cX6_more 21 = .ok (.baload, 1) := by decide +kernel
theorem dX6_more_22 : decode cX6_more 22 = .ok (.ifCond .ne 10, 3) := by decide +kernel
theorem dX6_more_25 : decode cX6_more 25 = .ok (.iload_n 2, 1) := by decide +kernel
theorem dX6_more_26 : decode cX6_more 26 = .ok (.invokestatic 128, 3) := by decide +kernel
theorem dX6_more_29 : decode cX6_more 29 = .ok (.ifCond .ne 7, 3) := by decide +kernel
theorem dX6_more_32 : decode cX6_more 32 = .ok (.ldc2_w 131, 3) := by decide +kernel
theorem dX6_more_35 : decode cX6_more 35 = .ok (.lreturn, 1) := by decide +kernel
theorem dX6_more_36 : decode cX6_more 36 = .ok (.aload_n 0, 1) := by decide +kernel
theorem dX6_more_37 : decode cX6_more 37 = .ok (.iconst 1, 1) := by decide +kernel
theorem dX6_more_38 : decode cX6_more 38 = .ok (.invokevirtual 133, 3) := by decide +kernel
theorem dX6_more_41 : decode cX6_more 41 = .ok (.astore 4, 2) := by decide +kernel
theorem dX6_more_43 : decode cX6_more 43 = .ok (.aload 4, 2) := by decide +kernel
theorem dX6_more_45 : decode cX6_more 45 = .ok (.getfield 137, 3) := by decide +kernel
theorem dX6_more_48 : decode cX6_more 48 = .ok (.ifCond .ne 7, 3) := by decide +kernel
theorem dX6_more_51 : decode cX6_more 51 = .ok (.ldc2_w 131, 3) := by decide +kernel
theorem dX6_more_54 : decode cX6_more 54 = .ok (.lreturn, 1) := by decide +kernel
theorem dX6_more_55 : decode cX6_more 55 = .ok (.aload_n 0, 1) := by decide +kernel
theorem dX6_more_56 : decode cX6_more 56 = .ok (.getfield 53, 3) := by decide +kernel
theorem dX6_more_59 : decode cX6_more 59 = .ok (.getfield 101, 3) := by decide +kernel
theorem dX6_more_62 : decode cX6_more 62 = .ok (.iload_n 3, 1) := by decide +kernel
theorem dX6_more_63 : decode cX6_more 63 = .ok (.dup2, 1) := by decide +kernel
theorem dX6_more_64 : decode cX6_more 64 = .ok (.iaload, 1) := by decide +kernel
theorem dX6_more_65 : decode cX6_more 65 = .ok (.iconst 1, 1) := by decide +kernel
theorem dX6_more_66 : decode cX6_more 66 = .ok (.iadd, 1) := by decide +kernel
theorem dX6_more_67 : decode cX6_more 67 = .ok (.iastore, 1) := by decide +kernel
theorem dX6_more_68 : decode cX6_more 68 = .ok (.aload_n 0, 1) := by decide +kernel
theorem dX6_more_69 : decode cX6_more 69 = .ok (.getfield 26, 3) := by decide +kernel
theorem dX6_more_72 : decode cX6_more 72 = .ok (.aload_n 0, 1) := by decide +kernel
theorem dX6_more_73 : decode cX6_more 73 = .ok (.getfield 53, 3) := by decide +kernel
theorem dX6_more_76 : decode cX6_more 76 = .ok (.iconst 1, 1) := by decide +kernel
theorem dX6_more_77 : decode cX6_more 77 = .ok (.aload_n 0, 1) := by decide +kernel
theorem dX6_more_78 : decode cX6_more 78 = .ok (.getfield 53, 3) := by decide +kernel
theorem dX6_more_81 : decode cX6_more 81 = .ok (.invokevirtual 157, 3) := by decide +kernel
theorem dX6_more_84 : decode cX6_more 84 = .ok (.aload_n 0, 1) := by decide +kernel
theorem dX6_more_85 : decode cX6_more 85 = .ok (.getfield 40, 3) := by decide +kernel
theorem dX6_more_88 : decode cX6_more 88 = .ok (.invokevirtual 161, 3) := by decide +kernel
theorem dX6_more_91 : decode cX6_more 91 = .ok (.aload_n 0, 1) := by decide +kernel
theorem dX6_more_92 : decode cX6_more 92 = .ok (.getfield 53, 3) := by decide +kernel
theorem dX6_more_95 : decode cX6_more 95 = .ok (.getfield 101, 3) := by decide +kernel
theorem dX6_more_98 : decode cX6_more 98 = .ok (.iload_n 3, 1) := by decide +kernel
theorem dX6_more_99 : decode cX6_more 99 = .ok (.dup2, 1) := by decide +kernel
theorem dX6_more_100 : decode cX6_more 100 = .ok (.iaload, 1) := by decide +kernel
theorem dX6_more_101 : decode cX6_more 101 = .ok (.iconst 1, 1) := by decide +kernel
theorem dX6_more_102 : decode cX6_more 102 = .ok (.isub, 1) := by decide +kernel
theorem dX6_more_103 : decode cX6_more 103 = .ok (.iastore, 1) := by decide +kernel
theorem dX6_more_104 : decode cX6_more 104 = .ok (.aload_n 0, 1) := by decide +kernel
theorem dX6_more_105 : decode cX6_more 105 = .ok (.getfield 40, 3) := by decide +kernel
theorem dX6_more_108 : decode cX6_more 108 = .ok (.getfield 137, 3) := by decide +kernel
theorem dX6_more_111 : decode cX6_more 111 = .ok (.ifCond .ne 7, 3) := by decide +kernel
theorem dX6_more_114 : decode cX6_more 114 = .ok (.ldc2_w 131, 3) := by decide +kernel
theorem dX6_more_117 : decode cX6_more 117 = .ok (.lreturn, 1) := by decide +kernel
theorem dX6_more_118 : decode cX6_more 118 = .ok (.aload_n 0, 1) := by decide +kernel
theorem dX6_more_119 : decode cX6_more 119 = .ok (.getfield 40, 3) := by decide +kernel
theorem dX6_more_122 : decode cX6_more 122 = .ok (.getfield 151, 3) := by decide +kernel
theorem dX6_more_125 : decode cX6_more 125 = .ok (.aload_n 0, 1) := by decide +kernel
theorem dX6_more_126 : decode cX6_more 126 = .ok (.getfield 40, 3) := by decide +kernel
theorem dX6_more_129 : decode cX6_more 129 = .ok (.getfield 144, 3) := by decide +kernel
theorem dX6_more_132 : decode cX6_more 132 = .ok (.aload 4, 2) := by decide +kernel
theorem dX6_more_134 : decode cX6_more 134 = .ok (.getfield 151, 3) := by decide +kernel
theorem dX6_more_137 : decode cX6_more 137 = .ok (.aload 4, 2) := by decide +kernel
theorem dX6_more_139 : decode cX6_more 139 = .ok (.getfield 144, 3) := by decide +kernel
theorem dX6_more_142 : decode cX6_more 142 = .ok (.iload_n 2, 1) := by decide +kernel
theorem dX6_more_143 : decode cX6_more 143 = .ok (.invokestatic 153, 3) := by decide +kernel
theorem dX6_more_146 : decode cX6_more 146 = .ok (.lreturn, 1) := by decide +kernel
theorem dX6_clash_0 : decode cX6_clash 0 = .ok (.iload_n 1, 1) := by decide +kernel
theorem dX6_clash_1 : decode cX6_clash 1 = .ok (.invokestatic 128, 3) := by decide +kernel
theorem dX6_clash_4 : decode cX6_clash 4 = .ok (.ifCond .ne 5, 3) := by decide +kernel
theorem dX6_clash_7 : decode cX6_clash 7 = .ok (.iconst (-1), 1) := by decide +kernel
theorem dX6_clash_8 : decode cX6_clash 8 = .ok (.ireturn, 1) := by decide +kernel
theorem dX6_clash_9 : decode cX6_clash 9 = .ok (.aload_n 0, 1) := by decide +kernel
theorem dX6_clash_10 : decode cX6_clash 10 = .ok (.iconst 1, 1) := by decide +kernel
theorem dX6_clash_11 : decode cX6_clash 11 = .ok (.invokevirtual 133, 3) := by decide +kernel
theorem dX6_clash_14 : decode cX6_clash 14 = .ok (.getfield 137, 3) := by decide +kernel
theorem dX6_clash_17 : decode cX6_clash 17 = .ok (.ifCond .eq 6, 3) := by decide +kernel
theorem dX6_clash_20 : decode cX6_clash 20 = .ok (.bipush (-9), 2) := by decide +kernel
theorem dX6_clash_22 : decode cX6_clash 22 = .ok (.ireturn, 1) := by decide +kernel
theorem dX6_clash_23 : decode cX6_clash 23 = .ok (.iconst 1, 1) := by decide +kernel
theorem dX6_clash_24 : decode cX6_clash 24 = .ok (.istore_n 2, 1) := by decide +kernel
theorem dX6_clash_25 : decode cX6_clash 25 = .ok (.iload_n 2, 1) := by decide +kernel
theorem dX6_clash_26 : decode cX6_clash 26 = .ok (.iconst 5, 1) := by decide +kernel
theorem dX6_clash_27 : decode cX6_clash 27 = .ok (.if_icmp .gt 29, 3) := by decide +kernel
theorem dX6_clash_30 : decode cX6_clash 30 = .ok (.aload_n 0, 1) := by decide +kernel
theorem dX6_clash_31 : decode cX6_clash 31 = .ok (.iload_n 2, 1) := by decide +kernel
theorem dX6_clash_32 : decode cX6_clash 32 = .ok (.invokevirtual 165, 3) := by decide +kernel
theorem dX6_clash_35 : decode cX6_clash 35 = .ok (.istore_n 3, 1) := by decide +kernel
theorem dX6_clash_36 : decode cX6_clash 36 = .ok (.iload_n 3, 1) := by decide +kernel
theorem dX6_clash_37 : decode cX6_clash 37 = .ok (.ifCond .le 13, 3) := by decide +kernel
theorem dX6_clash_40 : decode cX6_clash 40 = .ok (.iload_n 1, 1) := by decide +kernel
theorem dX6_clash_41 : decode cX6_clash 41 = .ok (.ifCond .ne 7, 3) := by decide +kernel
theorem dX6_clash_44 : decode cX6_clash 44 = .ok (.iload_n 2, 1) := by decide +kernel
theorem dX6_clash_45 : decode cX6_clash 45 = .ok (.goto 4, 3) := by decide +kernel
theorem dX6_clash_48 : decode cX6_clash 48 = .ok (.iload_n 3, 1) := by decide +kernel
theorem dX6_clash_49 : decode cX6_clash 49 = .ok (.ireturn, 1) := by decide +kernel
theorem dX6_clash_50 : decode cX6_clash 50 = .ok (.iinc 2 1, 3) := by decide +kernel
theorem dX6_clash_53 : decode cX6_clash 53 = .ok (.goto (-28), 3) := by decide +kernel
theorem dX6_clash_56 : decode cX6_clash 56 = .ok (.bipush (-9), 2) := by decide +kernel
theorem dX6_clash_58 : decode cX6_clash 58 = .ok (.ireturn, 1) := by decide +kernel
theorem dX6_tell_0 : decode cX6_tell 0 = .ok (.iload_n 1, 1) := by decide +kernel
theorem dX6_tell_1 : decode cX6_tell 1 = .ok (.ifCond .lt 8, 3) := by decide +kernel
theorem dX6_tell_4 : decode cX6_tell 4 = .ok (.iload_n 1, 1) := by decide +kernel
theorem dX6_tell_5 : decode cX6_tell 5 = .ok (.iconst 1, 1) := by decide +kernel
theorem dX6_tell_6 : decode cX6_tell 6 = .ok (.if_icmp .le 5, 3) := by decide +kernel
theorem dX6_tell_9 : decode cX6_tell 9 = .ok (.iconst (-1), 1) := by decide +kernel
theorem dX6_tell_10 : decode cX6_tell 10 = .ok (.ireturn, 1) := by decide +kernel
theorem dX6_tell_11 : decode cX6_tell 11 = .ok (.iload_n 1, 1) := by decide +kernel
theorem dX6_tell_12 : decode cX6_tell 12 = .ok (.ifCond .ne 19, 3) := by decide +kernel
theorem dX6_tell_15 : decode cX6_tell 15 = .ok (.aload_n 0, 1) := by decide +kernel
theorem dX6_tell_16 : decode cX6_tell 16 = .ok (.iload_n 2, 1) := by decide +kernel
theorem dX6_tell_17 : decode cX6_tell 17 = .ok (.invokevirtual 108, 3) := by decide +kernel
theorem dX6_tell_20 : decode cX6_tell 20 = .ok (.ifCond .eq 7, 3) := by decide +kernel
theorem dX6_tell_23 : decode cX6_tell 23 = .ok (.iload_n 2, 1) := by decide +kernel
theorem dX6_tell_24 : decode cX6_tell 24 = .ok (.goto 15, 3) := by decide +kernel
theorem dX6_tell_27 : decode cX6_tell 27 = .ok (.iconst (-1), 1) := by decide +kernel
theorem dX6_tell_28 : decode cX6_tell 28 = .ok (.goto 11, 3) := by decide +kernel
theorem dX6_tell_31 : decode cX6_tell 31 = .ok (.aload_n 0, 1) := by decide +kernel
theorem dX6_tell_32 : decode cX6_tell 32 = .ok (.getfield 53, 3) := by decide +kernel
theorem dX6_tell_35 : decode cX6_tell 35 = .ok (.iload_n 2, 1) := by decide +kernel
theorem dX6_tell_36 : decode cX6_tell 36 = .ok (.invokevirtual 89, 3) := by decide +kernel
theorem dX6_tell_39 : decode cX6_tell 39 = .ok (.istore 5, 2) := by decide +kernel
theorem dX6_tell_41 : decode cX6_tell 41 = .ok (.iload 5, 2) := by decide +kernel
theorem dX6_tell_43 : decode cX6_tell 43 = .ok (.ifCond .lt 12, 3) := by decide +kernel
theorem dX6_tell_46 : decode cX6_tell 46 = .ok (.iload_n 3, 1) := by decide +kernel
theorem dX6_tell_47 : decode cX6_tell 47 = .ok (.iload 4, 2) := by decide +kernel
theorem dX6_tell_49 : decode cX6_tell 49 = .ok (.invokestatic 168, 3) := by decide +kernel
theorem dX6_tell_52 : decode cX6_tell 52 = .ok (.ifCond .ne 5, 3) := by decide +kernel
theorem dX6_tell_55 : decode cX6_tell 55 = .ok (.iconst (-1), 1) := by decide +kernel
theorem dX6_tell_56 : decode cX6_tell 56 = .ok (.ireturn, 1) := by decide +kernel
theorem dX6_tell_57 : decode cX6_tell 57 = .ok (.iload_n 1, 1) := by decide +kernel
theorem dX6_tell_58 : decode cX6_tell 58 = .ok (.ifCond .ne 22, 3) := by decide +kernel
theorem dX6_tell_61 : decode cX6_tell 61 = .ok (.aload_n 0, 1) := by decide +kernel
theorem dX6_tell_62 : decode cX6_tell 62 = .ok (.getfield 19, 3) := by decide +kernel
theorem dX6_tell_65 : decode cX6_tell 65 = .ok (.getfield 172, 3) := by decide +kernel
theorem dX6_tell_68 : decode cX6_tell 68 = .ok (.iload 5, 2) := by decide +kernel
theorem dX6_tell_70 : decode cX6_tell 70 = .ok (.iload_n 3, 1) := by decide +kernel
theorem dX6_tell_71 : decode cX6_tell 71 = .ok (.iload 4, 2) := by decide +kernel
theorem dX6_tell_73 : decode cX6_tell 73 = .ok (.invokestatic 173, 3) := by decide +kernel
theorem dX6_tell_76 : decode cX6_tell 76 = .ok (.lastore, 1) := by decide +kernel
theorem dX6_tell_77 : decode cX6_tell 77 = .ok (.goto 19, 3) := by decide +kernel
theorem dX6_tell_80 : decode cX6_tell 80 = .ok (.aload_n 0, 1) := by decide +kernel
theorem dX6_tell_81 : decode cX6_tell 81 = .ok (.getfield 19, 3) := by decide +kernel
theorem dX6_tell_84 : decode cX6_tell 84 = .ok (.getfield 177, 3) := by decide +kernel
theorem dX6_tell_87 : decode cX6_tell 87 = .ok (.iload 5, 2) := by decide +kernel
theorem dX6_tell_89 : decode cX6_tell 89 = .ok (.iload_n 3, 1) := by decide +kernel
theorem dX6_tell_90 : decode cX6_tell 90 = .ok (.iload 4, 2) := by decide +kernel
theorem dX6_tell_92 : decode cX6_tell 92 = .ok (.invokestatic 173, 3) := by decide +kernel
theorem dX6_tell_95 : decode cX6_tell 95 = .ok (.lastore, 1) := by decide +kernel
theorem dX6_tell_96 : decode cX6_tell 96 = .ok (.iconst 1, 1) := by decide +kernel
theorem dX6_tell_97 : decode cX6_tell 97 = .ok (.ireturn, 1) := by decide +kernel
theorem dX6_check_0 : decode cX6_check 0 = .ok (.aload_n 0, 1) := by decide +kernel
theorem dX6_check_1 : decode cX6_check 1 = .ok (.getfield 19, 3) := by decide +kernel
theorem dX6_check_4 : decode cX6_check 4 = .ok (.aload_n 0, 1) := by decide +kernel
theorem dX6_check_5 : decode cX6_check 5 = .ok (.getfield 53, 3) := by decide +kernel
theorem dX6_check_8 : decode cX6_check 8 = .ok (.invokevirtual 180, 3) := by decide +kernel
theorem dX6_check_11 : decode cX6_check 11 = .ok (.ifCond .ne 5, 3) := by decide +kernel
theorem dX6_check_14 : decode cX6_check 14 = .ok (.iconst 1, 1) := by decide +kernel
theorem dX6_check_15 : decode cX6_check 15 = .ok (.ireturn, 1) := by decide +kernel
theorem dX6_check_16 : decode cX6_check 16 = .ok (.aload_n 0, 1) := by decide +kernel
theorem dX6_check_17 : decode cX6_check 17 = .ok (.getfield 19, 3) := by decide +kernel
theorem dX6_check_20 : decode cX6_check 20 = .ok (.aload_n 0, 1) := by decide +kernel
theorem dX6_check_21 : decode cX6_check 21 = .ok (.getfield 53, 3) := by decide +kernel
theorem dX6_check_24 : decode cX6_check 24 = .ok (.invokevirtual 184, 3) := by decide +kernel
theorem dX6_check_27 : decode cX6_check 27 = .ok (.ifCond .ne 5, 3) := by decide +kernel
theorem dX6_check_30 : decode cX6_check 30 = .ok (.iconst 2, 1) := by decide +kernel
theorem dX6_check_31 : decode cX6_check 31 = .ok (.ireturn, 1) := by decide +kernel
theorem dX6_check_32 : decode cX6_check 32 = .ok (.aload_n 0, 1) := by decide +kernel
theorem dX6_check_33 : decode cX6_check 33 = .ok (.getfield 19, 3) := by decide +kernel
theorem dX6_check_36 : decode cX6_check 36 = .ok (.aload_n 0, 1) := by decide +kernel
theorem dX6_check_37 : decode cX6_check 37 = .ok (.getfield 53, 3) := by decide +kernel
theorem dX6_check_40 : decode cX6_check 40 = .ok (.invokevirtual 187, 3) := by decide +kernel
theorem dX6_check_43 : decode cX6_check 43 = .ok (.ifCond .ne 5, 3) := by decide +kernel
theorem dX6_check_46 : decode cX6_check 46 = .ok (.iconst 3, 1) := by decide +kernel
theorem dX6_check_47 : decode cX6_check 47 = .ok (.ireturn, 1) := by decide +kernel
theorem dX6_check_48 : decode cX6_check 48 = .ok (.aload_n 0, 1) := by decide +kernel
theorem dX6_check_49 : decode cX6_check 49 = .ok (.getfield 19, 3) := by decide +kernel
theorem dX6_check_52 : decode cX6_check 52 = .ok (.aload_n 0, 1) := by decide +kernel
theorem dX6_check_53 : decode cX6_check 53 = .ok (.getfield 53, 3) := by decide +kernel
theorem dX6_check_56 : decode cX6_check 56 = .ok (.invokevirtual 190, 3) := by decide +kernel
theorem dX6_check_59 : decode cX6_check 59 = .ok (.ifCond .eq 7, 3) := by decide +kernel
theorem dX6_check_62 : decode cX6_check 62 = .ok (.iconst 0, 1) := by decide +kernel
theorem dX6_check_63 : decode cX6_check 63 = .ok (.goto 4, 3) := by decide +kernel
theorem dX6_check_66 : decode cX6_check 66 = .ok (.iconst 4, 1) := by decide +kernel
theorem dX6_check_67 : decode cX6_check 67 = .ok (.ireturn, 1) := by decide +kernel
theorem dX6_reach_0 : decode cX6_reach 0 = .ok (.aload_n 0, 1) := by decide +kernel
theorem dX6_reach_1 : decode cX6_reach 1 = .ok (.iload_n 1, 1) := by decide +kernel
theorem dX6_reach_2 : decode cX6_reach 2 = .ok (.invokevirtual 108, 3) := by decide +kernel
theorem dX6_reach_5 : decode cX6_reach 5 = .ok (.ifCond .ne 5, 3) := by decide +kernel
theorem dX6_reach_8 : decode cX6_reach 8 = .ok (.iconst (-1), 1) := by decide +kernel
theorem dX6_reach_9 : decode cX6_reach 9 = .ok (.ireturn, 1) := by decide +kernel
theorem dX6_reach_10 : decode cX6_reach 10 = .ok (.aload_n 0, 1) := by decide +kernel
theorem dX6_reach_11 : decode cX6_reach 11 = .ok (.iconst 0, 1) := by decide +kernel
theorem dX6_reach_12 : decode cX6_reach 12 = .ok (.invokevirtual 133, 3) := by decide +kernel
theorem dX6_reach_15 : decode cX6_reach 15 = .ok (.astore_n 2, 1) := by decide +kernel
theorem dX6_reach_16 : decode cX6_reach 16 = .ok (.aload_n 0, 1) := by decide +kernel
theorem dX6_reach_17 : decode cX6_reach 17 = .ok (.getfield 53, 3) := by decide +kernel
theorem dX6_reach_20 : decode cX6_reach 20 = .ok (.getfield 121, 3) := by decide +kernel
theorem dX6_reach_23 : decode cX6_reach 23 = .ok (.iload_n 1, 1) := by decide +kernel
theorem dX6_reach_24 : decode cX6_reach 24 = .ok (.baload, 1) := by decide +kernel
theorem dX6_reach_25 : decode cX6_reach 25 = .ok (.ifCond .ne 10, 3) := by decide +kernel
theorem dX6_reach_28 : decode cX6_reach 28 = .ok (.aload_n 2, 1) := by decide +kernel
theorem dX6_reach_29 : decode cX6_reach 29 = .ok (.getfield 137, 3) := by decide +kernel
theorem dX6_reach_32 : decode cX6_reach 32 = .ok (.ifCond .ne 6, 3) := by decide +kernel
theorem dX6_reach_35 : decode cX6_reach 35 = .ok (.bipush (-9), 2) := by decide +kernel
theorem dX6_reach_37 : decode cX6_reach 37 = .ok (.ireturn, 1) := by decide +kernel
theorem dX6_reach_38 : decode cX6_reach 38 = .ok (.iconst 0, 1) := by decide +kernel
theorem dX6_reach_39 : decode cX6_reach 39 = .ok (.istore_n 3, 1) := by decide +kernel
theorem dX6_reach_40 : decode cX6_reach 40 = .ok (.bipush 100, 2) := by decide +kernel
theorem dX6_reach_42 : decode cX6_reach 42 = .ok (.istore 4, 2) := by decide +kernel
theorem dX6_reach_44 : decode cX6_reach 44 = .ok (.iconst 0, 1) := by decide +kernel
theorem dX6_reach_45 : decode cX6_reach 45 = .ok (.istore 5, 2) := by decide +kernel
theorem dX6_reach_47 : decode cX6_reach 47 = .ok (.iload 5, 2) := by decide +kernel
theorem dX6_reach_49 : decode cX6_reach 49 = .ok (.bipush 8, 2) := by decide +kernel
theorem dX6_reach_51 : decode cX6_reach 51 = .ok (.if_icmp .ge 95, 3) := by decide +kernel
theorem dX6_reach_54 : decode cX6_reach 54 = .ok (.iload 4, 2) := by decide +kernel
theorem dX6_reach_56 : decode cX6_reach 56 = .ok (.iload_n 3, 1) := by decide +kernel
theorem dX6_reach_57 : decode cX6_reach 57 = .ok (.isub, 1) := by decide +kernel
theorem dX6_reach_58 : decode cX6_reach 58 = .ok (.iconst 1, 1) := by decide +kernel
theorem dX6_reach_59 : decode cX6_reach 59 = .ok (.if_icmp .le 87, 3) := by decide +kernel
theorem dX6_reach_62 : decode cX6_reach 62 = .ok (.iload_n 3, 1) := by decide +kernel
theorem dX6_reach_63 : decode cX6_reach 63 = .ok (.iload 4, 2) := by decide +kernel
theorem dX6_reach_65 : decode cX6_reach 65 = .ok (.iadd, 1) := by decide +kernel
theorem dX6_reach_66 : decode cX6_reach 66 = .ok (.iconst 2, 1) := by decide +kernel
theorem dX6_reach_67 : decode cX6_reach 67 = .ok (.idiv, 1) := by decide +kernel
theorem dX6_reach_68 : decode cX6_reach 68 = .ok (.istore 6, 2) := by decide +kernel
theorem dX6_reach_70 : decode cX6_reach 70 = .ok (.aload_n 0, 1) := by decide +kernel
theorem dX6_reach_71 : decode cX6_reach 71 = .ok (.iload_n 1, 1) := by decide +kernel
theorem dX6_reach_72 : decode cX6_reach 72 = .ok (.aload_n 0, 1) := by decide +kernel
theorem dX6_reach_73 : decode cX6_reach 73 = .ok (.getfield 53, 3) := by decide +kernel
theorem dX6_reach_76 : decode cX6_reach 76 = .ok (.getfield 112, 3) := by decide +kernel
theorem dX6_reach_79 : decode cX6_reach 79 = .ok (.iload_n 1, 1) := by decide +kernel
theorem dX6_reach_80 : decode cX6_reach 80 = .ok (.iaload, 1) := by decide +kernel
theorem dX6_reach_81 : decode cX6_reach 81 = .ok (.iload 6, 2) := by decide +kernel
theorem dX6_reach_83 : decode cX6_reach 83 = .ok (.iadd, 1) := by decide +kernel
theorem dX6_reach_84 : decode cX6_reach 84 = .ok (.invokevirtual 193, 3) := by decide +kernel
theorem dX6_reach_87 : decode cX6_reach 87 = .ok (.aload_n 2, 1) := by decide +kernel
theorem dX6_reach_88 : decode cX6_reach 88 = .ok (.getfield 151, 3) := by decide +kernel
theorem dX6_reach_91 : decode cX6_reach 91 = .ok (.iload 6, 2) := by decide +kernel
theorem dX6_reach_93 : decode cX6_reach 93 = .ok (.i2l, 1) := by decide +kernel
theorem dX6_reach_94 : decode cX6_reach 94 = .ok (.aload_n 2, 1) := by decide +kernel
theorem dX6_reach_95 : decode cX6_reach 95 = .ok (.getfield 140, 3) := by decide +kernel
theorem dX6_reach_98 : decode cX6_reach 98 = .ok (.iload_n 1, 1) := by decide +kernel
theorem dX6_reach_99 : decode cX6_reach 99 = .ok (.laload, 1) := by decide +kernel
theorem dX6_reach_100 : decode cX6_reach 100 = .ok (.lmul, 1) := by decide +kernel
theorem dX6_reach_101 : decode cX6_reach 101 = .ok (.ladd, 1) := by decide +kernel
theorem dX6_reach_102 : decode cX6_reach 102 = .ok (.lstore 7, 2) := by decide +kernel
theorem dX6_reach_104 : decode cX6_reach 104 = .ok (.aload_n 0, 1) := by decide +kernel
theorem dX6_reach_105 : decode cX6_reach 105 = .ok (.getfield 40, 3) := by decide +kernel
theorem dX6_reach_108 : decode cX6_reach 108 = .ok (.getfield 151, 3) := by decide +kernel
theorem dX6_reach_111 : decode cX6_reach 111 = .ok (.aload_n 2, 1) := by decide +kernel
theorem dX6_reach_112 : decode cX6_reach 112 = .ok (.getfield 144, 3) := by decide +kernel
theorem dX6_reach_115 : decode cX6_reach 115 = .ok (.lmul, 1) := by decide +kernel
theorem dX6_reach_116 : decode cX6_reach 116 = .ok (.lload 7, 2) := by decide +kernel
theorem dX6_reach_118 : decode cX6_reach 118 = .ok (.aload_n 0, 1) := by decide +kernel
theorem dX6_reach_119 : decode cX6_reach 119 = .ok (.getfield 40, 3) := by decide +kernel
theorem dX6_reach_122 : decode cX6_reach 122 = .ok (.getfield 144, 3) := by decide +kernel
theorem dX6_reach_125 : decode cX6_reach 125 = .ok (.lmul, 1) := by decide +kernel
theorem dX6_reach_126 : decode cX6_reach 126 = .ok (.lcmp, 1) := by decide +kernel
theorem dX6_reach_127 : decode cX6_reach 127 = .ok (.ifCond .le 10, 3) := by decide +kernel
theorem dX6_reach_130 : decode cX6_reach 130 = .ok (.iload 6, 2) := by decide +kernel
theorem dX6_reach_132 : decode cX6_reach 132 = .ok (.istore 4, 2) := by decide +kernel
theorem dX6_reach_134 : decode cX6_reach 134 = .ok (.goto 6, 3) := by decide +kernel
theorem dX6_reach_137 : decode cX6_reach 137 = .ok (.iload 6, 2) := by decide +kernel
theorem dX6_reach_139 : decode cX6_reach 139 = .ok (.istore_n 3, 1) := by decide +kernel
theorem dX6_reach_140 : decode cX6_reach 140 = .ok (.iinc 5 1, 3) := by decide +kernel
theorem dX6_reach_143 : decode cX6_reach 143 = .ok (.goto (-96), 3) := by decide +kernel
theorem dX6_reach_146 : decode cX6_reach 146 = .ok (.iload 4, 2) := by decide +kernel
theorem dX6_reach_148 : decode cX6_reach 148 = .ok (.bipush 99, 2) := by decide +kernel
theorem dX6_reach_150 : decode cX6_reach 150 = .ok (.if_icmp .le 8, 3) := by decide +kernel
theorem dX6_reach_153 : decode cX6_reach 153 = .ok (.bipush (-9), 2) := by decide +kernel
theorem dX6_reach_155 : decode cX6_reach 155 = .ok (.goto 5, 3) := by decide +kernel
theorem dX6_reach_158 : decode cX6_reach 158 = .ok (.iload 4, 2) := by decide +kernel
theorem dX6_reach_160 : decode cX6_reach 160 = .ok (.ireturn, 1) := by decide +kernel
theorem dX6_fair_0 : decode cX6_fair 0 = .ok (.aload_n 0, 1) := by decide +kernel
theorem dX6_fair_1 : decode cX6_fair 1 = .ok (.iload_n 1, 1) := by decide +kernel
theorem dX6_fair_2 : decode cX6_fair 2 = .ok (.invokevirtual 108, 3) := by decide +kernel
theorem dX6_fair_5 : decode cX6_fair 5 = .ok (.ifCond .eq 10, 3) := by decide +kernel
theorem dX6_fair_8 : decode cX6_fair 8 = .ok (.iload_n 2, 1) := by decide +kernel
theorem dX6_fair_9 : decode cX6_fair 9 = .ok (.invokestatic 128, 3) := by decide +kernel
theorem dX6_fair_12 : decode cX6_fair 12 = .ok (.ifCond .ne 7, 3) := by decide +kernel
theorem dX6_fair_15 : decode cX6_fair 15 = .ok (.ldc2_w 131, 3) := by decide +kernel
theorem dX6_fair_18 : decode cX6_fair 18 = .ok (.lreturn, 1) := by decide +kernel
theorem dX6_fair_19 : decode cX6_fair 19 = .ok (.aload_n 0, 1) := by decide +kernel
theorem dX6_fair_20 : decode cX6_fair 20 = .ok (.iconst 0, 1) := by decide +kernel
theorem dX6_fair_21 : decode cX6_fair 21 = .ok (.invokevirtual 133, 3) := by decide +kernel
theorem dX6_fair_24 : decode cX6_fair 24 = .ok (.astore_n 3, 1) := by decide +kernel
theorem dX6_fair_25 : decode cX6_fair 25 = .ok (.aload_n 3, 1) := by decide +kernel
theorem dX6_fair_26 : decode cX6_fair 26 = .ok (.getfield 137, 3) := by decide +kernel
theorem dX6_fair_29 : decode cX6_fair 29 = .ok (.ifCond .ne 7, 3) := by decide +kernel
theorem dX6_fair_32 : decode cX6_fair 32 = .ok (.ldc2_w 131, 3) := by decide +kernel
theorem dX6_fair_35 : decode cX6_fair 35 = .ok (.lreturn, 1) := by decide +kernel
theorem dX6_fair_36 : decode cX6_fair 36 = .ok (.aload_n 0, 1) := by decide +kernel
theorem dX6_fair_37 : decode cX6_fair 37 = .ok (.getfield 53, 3) := by decide +kernel
theorem dX6_fair_40 : decode cX6_fair 40 = .ok (.getfield 121, 3) := by decide +kernel
theorem dX6_fair_43 : decode cX6_fair 43 = .ok (.iload_n 1, 1) := by decide +kernel
theorem dX6_fair_44 : decode cX6_fair 44 = .ok (.baload, 1) := by decide +kernel
theorem dX6_fair_45 : decode cX6_fair 45 = .ok (.ifCond .eq 10, 3) := by decide +kernel
theorem dX6_fair_48 : decode cX6_fair 48 = .ok (.lconst 0, 1) := by decide +kernel
theorem dX6_fair_49 : decode cX6_fair 49 = .ok (.lconst 1, 1) := by decide +kernel
theorem dX6_fair_50 : decode cX6_fair 50 = .ok (.iload_n 2, 1) := by decide +kernel
theorem dX6_fair_51 : decode cX6_fair 51 = .ok (.invokestatic 147, 3) := by decide +kernel
theorem dX6_fair_54 : decode cX6_fair 54 = .ok (.lreturn, 1) := by decide +kernel
theorem dX6_fair_55 : decode cX6_fair 55 = .ok (.aload_n 0, 1) := by decide +kernel
theorem dX6_fair_56 : decode cX6_fair 56 = .ok (.iload_n 1, 1) := by decide +kernel
theorem dX6_fair_57 : decode cX6_fair 57 = .ok (.invokevirtual 197, 3) := by decide +kernel
theorem dX6_fair_60 : decode cX6_fair 60 = .ok (.aload_n 0, 1) := by decide +kernel
theorem dX6_fair_61 : decode cX6_fair 61 = .ok (.getfield 40, 3) := by decide +kernel
theorem dX6_fair_64 : decode cX6_fair 64 = .ok (.getfield 137, 3) := by decide +kernel
theorem dX6_fair_67 : decode cX6_fair 67 = .ok (.ifCond .ne 7, 3) := by decide +kernel
theorem dX6_fair_70 : decode cX6_fair 70 = .ok (.ldc2_w 131, 3) := by decide +kernel
theorem dX6_fair_73 : decode cX6_fair 73 = .ok (.lreturn, 1) := by decide +kernel
theorem dX6_fair_74 : decode cX6_fair 74 = .ok (.aload_n 3, 1) := by decide +kernel
theorem dX6_fair_75 : decode cX6_fair 75 = .ok (.getfield 151, 3) := by decide +kernel
theorem dX6_fair_78 : decode cX6_fair 78 = .ok (.aload_n 0, 1) := by decide +kernel
theorem dX6_fair_79 : decode cX6_fair 79 = .ok (.getfield 53, 3) := by decide +kernel
theorem dX6_fair_82 : decode cX6_fair 82 = .ok (.getfield 112, 3) := by decide +kernel
theorem dX6_fair_85 : decode cX6_fair 85 = .ok (.iload_n 1, 1) := by decide +kernel
theorem dX6_fair_86 : decode cX6_fair 86 = .ok (.iaload, 1) := by decide +kernel
theorem dX6_fair_87 : decode cX6_fair 87 = .ok (.i2l, 1) := by decide +kernel
theorem dX6_fair_88 : decode cX6_fair 88 = .ok (.aload_n 3, 1) := by decide +kernel
theorem dX6_fair_89 : decode cX6_fair 89 = .ok (.getfield 140, 3) := by decide +kernel
theorem dX6_fair_92 : decode cX6_fair 92 = .ok (.iload_n 1, 1) := by decide +kernel
theorem dX6_fair_93 : decode cX6_fair 93 = .ok (.laload, 1) := by decide +kernel
theorem dX6_fair_94 : decode cX6_fair 94 = .ok (.lmul, 1) := by decide +kernel
theorem dX6_fair_95 : decode cX6_fair 95 = .ok (.lsub, 1) := by decide +kernel
theorem dX6_fair_96 : decode cX6_fair 96 = .ok (.lstore 4, 2) := by decide +kernel
theorem dX6_fair_98 : decode cX6_fair 98 = .ok (.aload_n 0, 1) := by decide +kernel
theorem dX6_fair_99 : decode cX6_fair 99 = .ok (.getfield 40, 3) := by decide +kernel
theorem dX6_fair_102 : decode cX6_fair 102 = .ok (.getfield 151, 3) := by decide +kernel
theorem dX6_fair_105 : decode cX6_fair 105 = .ok (.aload_n 0, 1) := by decide +kernel
theorem dX6_fair_106 : decode cX6_fair 106 = .ok (.getfield 40, 3) := by decide +kernel
theorem dX6_fair_109 : decode cX6_fair 109 = .ok (.getfield 144, 3) := by decide +kernel
theorem dX6_fair_112 : decode cX6_fair 112 = .ok (.lload 4, 2) := by decide +kernel
theorem dX6_fair_114 : decode cX6_fair 114 = .ok (.aload_n 3, 1) := by decide +kernel
theorem dX6_fair_115 : decode cX6_fair 115 = .ok (.getfield 144, 3) := by decide +kernel
theorem dX6_fair_118 : decode cX6_fair 118 = .ok (.iload_n 2, 1) := by decide +kernel
theorem dX6_fair_119 : decode cX6_fair 119 = .ok (.invokestatic 153, 3) := by decide +kernel
theorem dX6_fair_122 : decode cX6_fair 122 = .ok (.lreturn, 1) := by decide +kernel
theorem dX6_lie_0 : decode cX6_lie 0 = .ok (.aload_n 0, 1) := by decide +kernel
theorem dX6_lie_1 : decode cX6_lie 1 = .ok (.iload_n 1, 1) := by decide +kernel
theorem dX6_lie_2 : decode cX6_lie 2 = .ok (.invokevirtual 108, 3) := by decide +kernel
theorem dX6_lie_5 : decode cX6_lie 5 = .ok (.ifCond .ne 5, 3) := by decide +kernel
theorem dX6_lie_8 : decode cX6_lie 8 = .ok (.iconst (-1), 1) := by decide +kernel
theorem dX6_lie_9 : decode cX6_lie 9 = .ok (.ireturn, 1) := by decide +kernel
theorem dX6_lie_10 : decode cX6_lie 10 = .ok (.aload_n 0, 1) := by decide +kernel
theorem dX6_lie_11 : decode cX6_lie 11 = .ok (.getfield 53, 3) := by decide +kernel
theorem dX6_lie_14 : decode cX6_lie 14 = .ok (.getfield 121, 3) := by decide +kernel
theorem dX6_lie_17 : decode cX6_lie 17 = .ok (.iload_n 1, 1) := by decide +kernel
theorem dX6_lie_18 : decode cX6_lie 18 = .ok (.baload, 1) := by decide +kernel
theorem dX6_lie_19 : decode cX6_lie 19 = .ok (.ifCond .ne 14, 3) := by decide +kernel
theorem dX6_lie_22 : decode cX6_lie 22 = .ok (.aload_n 0, 1) := by decide +kernel
theorem dX6_lie_23 : decode cX6_lie 23 = .ok (.iconst 0, 1) := by decide +kernel
theorem dX6_lie_24 : decode cX6_lie 24 = .ok (.invokevirtual 133, 3) := by decide +kernel
theorem dX6_lie_27 : decode cX6_lie 27 = .ok (.getfield 137, 3) := by decide +kernel
theorem dX6_lie_30 : decode cX6_lie 30 = .ok (.ifCond .ne 6, 3) := by decide +kernel
theorem dX6_lie_33 : decode cX6_lie 33 = .ok (.bipush (-9), 2) := by decide +kernel
theorem dX6_lie_35 : decode cX6_lie 35 = .ok (.ireturn, 1) := by decide +kernel
theorem dX6_lie_36 : decode cX6_lie 36 = .ok (.aload_n 0, 1) := by decide +kernel
theorem dX6_lie_37 : decode cX6_lie 37 = .ok (.getfield 53, 3) := by decide +kernel
theorem dX6_lie_40 : decode cX6_lie 40 = .ok (.getfield 112, 3) := by decide +kernel
theorem dX6_lie_43 : decode cX6_lie 43 = .ok (.iload_n 1, 1) := by decide +kernel
theorem dX6_lie_44 : decode cX6_lie 44 = .ok (.iaload, 1) := by decide +kernel
theorem dX6_lie_45 : decode cX6_lie 45 = .ok (.istore_n 2, 1) := by decide +kernel
theorem dX6_lie_46 : decode cX6_lie 46 = .ok (.aload_n 0, 1) := by decide +kernel
theorem dX6_lie_47 : decode cX6_lie 47 = .ok (.getfield 46, 3) := by decide +kernel
theorem dX6_lie_50 : decode cX6_lie 50 = .ok (.invokevirtual 201, 3) := by decide +kernel
theorem dX6_lie_53 : decode cX6_lie 53 = .ok (.iconst 0, 1) := by decide +kernel
theorem dX6_lie_54 : decode cX6_lie 54 = .ok (.istore_n 3, 1) := by decide +kernel
theorem dX6_lie_55 : decode cX6_lie 55 = .ok (.iload_n 3, 1) := by decide +kernel
theorem dX6_lie_56 : decode cX6_lie 56 = .ok (.bipush 99, 2) := by decide +kernel
theorem dX6_lie_58 : decode cX6_lie 58 = .ok (.if_icmp .gt 61, 3) := by decide +kernel
theorem dX6_lie_61 : decode cX6_lie 61 = .ok (.aload_n 0, 1) := by decide +kernel
theorem dX6_lie_62 : decode cX6_lie 62 = .ok (.getfield 46, 3) := by decide +kernel
theorem dX6_lie_65 : decode cX6_lie 65 = .ok (.iload_n 2, 1) := by decide +kernel
theorem dX6_lie_66 : decode cX6_lie 66 = .ok (.iconst 1, 1) := by decide +kernel
theorem dX6_lie_67 : decode cX6_lie 67 = .ok (.isub, 1) := by decide +kernel
theorem dX6_lie_68 : decode cX6_lie 68 = .ok (.invokevirtual 202, 3) := by decide +kernel
theorem dX6_lie_71 : decode cX6_lie 71 = .ok (.istore 4, 2) := by decide +kernel
theorem dX6_lie_73 : decode cX6_lie 73 = .ok (.iload 4, 2) := by decide +kernel
theorem dX6_lie_75 : decode cX6_lie 75 = .ok (.ifCond .ge 6, 3) := by decide +kernel
theorem dX6_lie_78 : decode cX6_lie 78 = .ok (.goto 41, 3) := by decide +kernel
theorem dX6_lie_81 : decode cX6_lie 81 = .ok (.aload_n 0, 1) := by decide +kernel
theorem dX6_lie_82 : decode cX6_lie 82 = .ok (.iload_n 1, 1) := by decide +kernel
theorem dX6_lie_83 : decode cX6_lie 83 = .ok (.iload 4, 2) := by decide +kernel
theorem dX6_lie_85 : decode cX6_lie 85 = .ok (.invokevirtual 193, 3) := by decide +kernel
theorem dX6_lie_88 : decode cX6_lie 88 = .ok (.aload_n 0, 1) := by decide +kernel
theorem dX6_lie_89 : decode cX6_lie 89 = .ok (.getfield 46, 3) := by decide +kernel
theorem dX6_lie_92 : decode cX6_lie 92 = .ok (.iload 4, 2) := by decide +kernel
theorem dX6_lie_94 : decode cX6_lie 94 = .ok (.aload_n 0, 1) := by decide +kernel
theorem dX6_lie_95 : decode cX6_lie 95 = .ok (.getfield 40, 3) := by decide +kernel
theorem dX6_lie_98 : decode cX6_lie 98 = .ok (.getfield 140, 3) := by decide +kernel
theorem dX6_lie_101 : decode cX6_lie 101 = .ok (.iload_n 1, 1) := by decide +kernel
theorem dX6_lie_102 : decode cX6_lie 102 = .ok (.laload, 1) := by decide +kernel
theorem dX6_lie_103 : decode cX6_lie 103 = .ok (.aload_n 0, 1) := by decide +kernel
theorem dX6_lie_104 : decode cX6_lie 104 = .ok (.getfield 40, 3) := by decide +kernel
theorem dX6_lie_107 : decode cX6_lie 107 = .ok (.getfield 144, 3) := by decide +kernel
theorem dX6_lie_110 : decode cX6_lie 110 = .ok (.invokevirtual 205, 3) := by decide +kernel
theorem dX6_lie_113 : decode cX6_lie 113 = .ok (.iinc 3 1, 3) := by decide +kernel
theorem dX6_lie_116 : decode cX6_lie 116 = .ok (.goto (-61), 3) := by decide +kernel
theorem dX6_lie_119 : decode cX6_lie 119 = .ok (.aload_n 0, 1) := by decide +kernel
theorem dX6_lie_120 : decode cX6_lie 120 = .ok (.getfield 46, 3) := by decide +kernel
theorem dX6_lie_123 : decode cX6_lie 123 = .ok (.iload_n 2, 1) := by decide +kernel
theorem dX6_lie_124 : decode cX6_lie 124 = .ok (.invokevirtual 209, 3) := by decide +kernel
theorem dX6_lie_127 : decode cX6_lie 127 = .ok (.ireturn, 1) := by decide +kernel
theorem dX6_core_0 : decode cX6_core 0 = .ok (.aload_n 0, 1) := by decide +kernel
theorem dX6_core_1 : decode cX6_core 1 = .ok (.iconst 0, 1) := by decide +kernel
theorem dX6_core_2 : decode cX6_core 2 = .ok (.invokevirtual 133, 3) := by decide +kernel
theorem dX6_core_5 : decode cX6_core 5 = .ok (.astore_n 1, 1) := by decide +kernel
theorem dX6_core_6 : decode cX6_core 6 = .ok (.aload_n 1, 1) := by decide +kernel
theorem dX6_core_7 : decode cX6_core 7 = .ok (.getfield 137, 3) := by decide +kernel
theorem dX6_core_10 : decode cX6_core 10 = .ok (.ifCond .ne 6, 3) := by decide +kernel
theorem dX6_core_13 : decode cX6_core 13 = .ok (.bipush (-9), 2) := by decide +kernel
theorem dX6_core_15 : decode cX6_core 15 = .ok (.ireturn, 1) := by decide +kernel
theorem dX6_core_16 : decode cX6_core 16 = .ok (.iconst 0, 1) := by decide +kernel
theorem dX6_core_17 : decode cX6_core 17 = .ok (.istore_n 2, 1) := by decide +kernel
theorem dX6_core_18 : decode cX6_core 18 = .ok (.iconst 0, 1) := by decide +kernel
theorem dX6_core_19 : decode cX6_core 19 = .ok (.istore_n 3, 1) := by decide +kernel
theorem dX6_core_20 : decode cX6_core 20 = .ok (.iload_n 3, 1) := by decide +kernel
theorem dX6_core_21 : decode cX6_core 21 = .ok (.aload_n 0, 1) := by decide +kernel
theorem dX6_core_22 : decode cX6_core 22 = .ok (.getfield 53, 3) := by decide +kernel
theorem dX6_core_25 : decode cX6_core 25 = .ok (.getfield 212, 3) := by decide +kernel
theorem dX6_core_28 : decode cX6_core 28 = .ok (.if_icmp .ge 73, 3) := by decide +kernel
theorem dX6_core_31 : decode cX6_core 31 = .ok (.aload_n 0, 1) := by decide +kernel
theorem dX6_core_32 : decode cX6_core 32 = .ok (.getfield 53, 3) := by decide +kernel
theorem dX6_core_35 : decode cX6_core 35 = .ok (.getfield 121, 3) := by decide +kernel
theorem dX6_core_38 : decode cX6_core 38 = .ok (.iload_n 3, 1) := by decide +kernel
theorem dX6_core_39 : decode cX6_core 39 = .ok (.baload, 1) := by decide +kernel
theorem dX6_core_40 : decode cX6_core 40 = .ok (.ifCond .eq 6, 3) := by decide +kernel
theorem dX6_core_43 : decode cX6_core 43 = .ok (.goto 52, 3) := by decide +kernel
theorem dX6_core_46 : decode cX6_core 46 = .ok (.aload_n 0, 1) := by decide +kernel
theorem dX6_core_47 : decode cX6_core 47 = .ok (.iload_n 3, 1) := by decide +kernel
theorem dX6_core_48 : decode cX6_core 48 = .ok (.invokevirtual 197, 3) := by decide +kernel
theorem dX6_core_51 : decode cX6_core 51 = .ok (.aload_n 0, 1) := by decide +kernel
theorem dX6_core_52 : decode cX6_core 52 = .ok (.getfield 40, 3) := by decide +kernel
theorem dX6_core_55 : decode cX6_core 55 = .ok (.getfield 137, 3) := by decide +kernel
theorem dX6_core_58 : decode cX6_core 58 = .ok (.ifCond .eq 31, 3) := by decide +kernel
theorem dX6_core_61 : decode cX6_core 61 = .ok (.aload_n 0, 1) := by decide +kernel
theorem dX6_core_62 : decode cX6_core 62 = .ok (.getfield 40, 3) := by decide +kernel
theorem dX6_core_65 : decode cX6_core 65 = .ok (.getfield 151, 3) := by decide +kernel
theorem dX6_core_68 : decode cX6_core 68 = .ok (.aload_n 1, 1) := by decide +kernel
theorem dX6_core_69 : decode cX6_core 69 = .ok (.getfield 144, 3) := by decide +kernel
theorem dX6_core_72 : decode cX6_core 72 = .ok (.lmul, 1) := by decide +kernel
theorem dX6_core_73 : decode cX6_core 73 = .ok (.aload_n 1, 1) := by decide +kernel
theorem dX6_core_74 : decode cX6_core 74 = .ok (.getfield 151, 3) := by decide +kernel
theorem dX6_core_77 : decode cX6_core 77 = .ok (.aload_n 0, 1) := by decide +kernel
theorem dX6_core_78 : decode cX6_core 78 = .ok (.getfield 40, 3) := by decide +kernel
theorem dX6_core_81 : decode cX6_core 81 = .ok (.getfield 144, 3) := by decide +kernel
theorem dX6_core_84 : decode cX6_core 84 = .ok (.lmul, 1) := by decide +kernel
theorem dX6_core_85 : decode cX6_core 85 = .ok (.lcmp, 1) := by decide +kernel
theorem dX6_core_86 : decode cX6_core 86 = .ok (.ifCond .ge 9, 3) := by decide +kernel
theorem dX6_core_89 : decode cX6_core 89 = .ok (.iload_n 2, 1) := by decide +kernel
theorem dX6_core_90 : decode cX6_core 90 = .ok (.iconst 1, 1) := by decide +kernel
theorem dX6_core_91 : decode cX6_core 91 = .ok (.iload_n 3, 1) := by decide +kernel
theorem dX6_core_92 : decode cX6_core 92 = .ok (.ishl, 1) := by decide +kernel
theorem dX6_core_93 : decode cX6_core 93 = .ok (.ior, 1) := by decide +kernel
theorem dX6_core_94 : decode cX6_core 94 = .ok (.istore_n 2, 1) := by decide +kernel
theorem dX6_core_95 : decode cX6_core 95 = .ok (.iinc 3 1, 3) := by decide +kernel
theorem dX6_core_98 : decode cX6_core 98 = .ok (.goto (-78), 3) := by decide +kernel
theorem dX6_core_101 : decode cX6_core 101 = .ok (.iload_n 2, 1) := by decide +kernel
theorem dX6_core_102 : decode cX6_core 102 = .ok (.ireturn, 1) := by decide +kernel
theorem dX6_labour_0 : decode cX6_labour 0 = .ok (.iload_n 1, 1) := by decide +kernel
theorem dX6_labour_1 : decode cX6_labour 1 = .ok (.tableswitch 60 0 4 #[35, 40, 45, 50, 55], 35) := by decide +kernel
theorem dX6_labour_36 : decode cX6_labour 36 = .ok (.aload_n 0, 1) := by decide +kernel
theorem dX6_labour_37 : decode cX6_labour 37 = .ok (.invokevirtual 215, 3) := by decide +kernel
theorem dX6_labour_40 : decode cX6_labour 40 = .ok (.ireturn, 1) := by decide +kernel
theorem dX6_labour_41 : decode cX6_labour 41 = .ok (.aload_n 0, 1) := by decide +kernel
theorem dX6_labour_42 : decode cX6_labour 42 = .ok (.invokevirtual 218, 3) := by decide +kernel
theorem dX6_labour_45 : decode cX6_labour 45 = .ok (.ireturn, 1) := by decide +kernel
theorem dX6_labour_46 : decode cX6_labour 46 = .ok (.aload_n 0, 1) := by decide +kernel
theorem dX6_labour_47 : decode cX6_labour 47 = .ok (.invokevirtual 221, 3) := by decide +kernel
theorem dX6_labour_50 : decode cX6_labour 50 = .ok (.ireturn, 1) := by decide +kernel
theorem dX6_labour_51 : decode cX6_labour 51 = .ok (.aload_n 0, 1) := by decide +kernel
theorem dX6_labour_52 : decode cX6_labour 52 = .ok (.invokevirtual 224, 3) := by decide +kernel
theorem dX6_labour_55 : decode cX6_labour 55 = .ok (.ireturn, 1) := by decide +kernel
theorem dX6_labour_56 : decode cX6_labour 56 = .ok (.aload_n 0, 1) := by decide +kernel
theorem dX6_labour_57 : decode cX6_labour 57 = .ok (.invokevirtual 227, 3) := by decide +kernel
theorem dX6_labour_60 : decode cX6_labour 60 = .ok (.ireturn, 1) := by decide +kernel
theorem dX6_labour_61 : decode cX6_labour 61 = .ok (.iconst (-1), 1) := by decide +kernel
theorem dX6_labour_62 : decode cX6_labour 62 = .ok (.ireturn, 1) := by decide +kernel
theorem dX6_count_0 : decode cX6_count 0 = .ok (.iload_n 1, 1) := by decide +kernel
theorem dX6_count_1 : decode cX6_count 1 = .ok (.tableswitch 75 0 4 #[35, 43, 51, 59, 67], 35) := by decide +kernel
theorem dX6_count_36 : decode cX6_count 36 = .ok (.aload_n 0, 1) := by decide +kernel
theorem dX6_count_37 : decode cX6_count 37 = .ok (.getfield 53, 3) := by decide +kernel
theorem dX6_count_40 : decode cX6_count 40 = .ok (.invokevirtual 230, 3) := by decide +kernel
theorem dX6_count_43 : decode cX6_count 43 = .ok (.ireturn, 1) := by decide +kernel
theorem dX6_count_44 : decode cX6_count 44 = .ok (.aload_n 0, 1) := by decide +kernel
theorem dX6_count_45 : decode cX6_count 45 = .ok (.getfield 53, 3) := by decide +kernel
theorem dX6_count_48 : decode cX6_count 48 = .ok (.getfield 212, 3) := by decide +kernel
theorem dX6_count_51 : decode cX6_count 51 = .ok (.ireturn, 1) := by decide +kernel
theorem dX6_count_52 : decode cX6_count 52 = .ok (.aload_n 0, 1) := by decide +kernel
theorem dX6_count_53 : decode cX6_count 53 = .ok (.getfield 53, 3) := by decide +kernel
theorem dX6_count_56 : decode cX6_count 56 = .ok (.invokevirtual 233, 3) := by decide +kernel
theorem dX6_count_59 : decode cX6_count 59 = .ok (.ireturn, 1) := by decide +kernel
theorem dX6_count_60 : decode cX6_count 60 = .ok (.aload_n 0, 1) := by decide +kernel
theorem dX6_count_61 : decode cX6_count 61 = .ok (.getfield 53, 3) := by decide +kernel
theorem dX6_count_64 : decode cX6_count 64 = .ok (.invokevirtual 236, 3) := by decide +kernel
theorem dX6_count_67 : decode cX6_count 67 = .ok (.ireturn, 1) := by decide +kernel
theorem dX6_count_68 : decode cX6_count 68 = .ok (.aload_n 0, 1) := by decide +kernel
theorem dX6_count_69 : decode cX6_count 69 = .ok (.getfield 10, 3) := by decide +kernel
theorem dX6_count_72 : decode cX6_count 72 = .ok (.getfield 75, 3) := by decide +kernel
theorem dX6_count_75 : decode cX6_count 75 = .ok (.ireturn, 1) := by decide +kernel
theorem dX6_count_76 : decode cX6_count 76 = .ok (.iconst (-1), 1) := by decide +kernel
theorem dX6_count_77 : decode cX6_count 77 = .ok (.ireturn, 1) := by decide +kernel
theorem dX6_trace_0 : decode cX6_trace 0 = .ok (.aload_n 0, 1) := by decide +kernel
theorem dX6_trace_1 : decode cX6_trace 1 = .ok (.getfield 67, 3) := by decide +kernel
theorem dX6_trace_4 : decode cX6_trace 4 = .ok (.lreturn, 1) := by decide +kernel
theorem dX6_bit_0 : decode cX6_bit 0 = .ok (.iload_n 0, 1) := by decide +kernel
theorem dX6_bit_1 : decode cX6_bit 1 = .ok (.ifCond .eq 7, 3) := by decide +kernel
theorem dX6_bit_4 : decode cX6_bit 4 = .ok (.iconst 1, 1) := by decide +kernel
theorem dX6_bit_5 : decode cX6_bit 5 = .ok (.goto 4, 3) := by decide +kernel
theorem dX6_bit_8 : decode cX6_bit 8 = .ok (.iconst 0, 1) := by decide +kernel
theorem dX6_bit_9 : decode cX6_bit 9 = .ok (.ireturn, 1) := by decide +kernel
theorem dX6_isSide_0 : decode cX6_isSide 0 = .ok (.iload_n 0, 1) := by decide +kernel
theorem dX6_isSide_1 : decode cX6_isSide 1 = .ok (.ifCond .eq 8, 3) := by decide +kernel
theorem dX6_isSide_4 : decode cX6_isSide 4 = .ok (.iload_n 0, 1) := by decide +kernel
theorem dX6_isSide_5 : decode cX6_isSide 5 = .ok (.iconst 1, 1) := by decide +kernel
theorem dX6_isSide_6 : decode cX6_isSide 6 = .ok (.if_icmp .ne 7, 3) := by decide +kernel
theorem dX6_isSide_9 : decode cX6_isSide 9 = .ok (.iconst 1, 1) := by decide +kernel
theorem dX6_isSide_10 : decode cX6_isSide 10 = .ok (.goto 4, 3) := by decide +kernel
theorem dX6_isSide_13 : decode cX6_isSide 13 = .ok (.iconst 0, 1) := by decide +kernel
theorem dX6_isSide_14 : decode cX6_isSide 14 = .ok (.ireturn, 1) := by decide +kernel
theorem dX6_isWish_0 : decode cX6_isWish 0 = .ok (.iload_n 1, 1) := by decide +kernel
theorem dX6_isWish_1 : decode cX6_isWish 1 = .ok (.ifCond .lt 18, 3) := by decide +kernel
theorem dX6_isWish_4 : decode cX6_isWish 4 = .ok (.iload_n 1, 1) := by decide +kernel
theorem dX6_isWish_5 : decode cX6_isWish 5 = .ok (.aload_n 0, 1) := by decide +kernel
theorem dX6_isWish_6 : decode cX6_isWish 6 = .ok (.getfield 53, 3) := by decide +kernel
theorem dX6_isWish_9 : decode cX6_isWish 9 = .ok (.getfield 212, 3) := by decide +kernel
theorem dX6_isWish_12 : decode cX6_isWish 12 = .ok (.if_icmp .ge 7, 3) := by decide +kernel
theorem dX6_isWish_15 : decode cX6_isWish 15 = .ok (.iconst 1, 1) := by decide +kernel
theorem dX6_isWish_16 : decode cX6_isWish 16 = .ok (.goto 4, 3) := by decide +kernel
theorem dX6_isWish_19 : decode cX6_isWish 19 = .ok (.iconst 0, 1) := by decide +kernel
theorem dX6_isWish_20 : decode cX6_isWish 20 = .ok (.ireturn, 1) := by decide +kernel
theorem dX6_gcd_0 : decode cX6_gcd 0 = .ok (.lload_n 0, 1) := by decide +kernel
theorem dX6_gcd_1 : decode cX6_gcd 1 = .ok (.invokestatic 239, 3) := by decide +kernel
theorem dX6_gcd_4 : decode cX6_gcd 4 = .ok (.lstore 4, 2) := by decide +kernel
theorem dX6_gcd_6 : decode cX6_gcd 6 = .ok (.lload_n 2, 1) := by decide +kernel
theorem dX6_gcd_7 : decode cX6_gcd 7 = .ok (.invokestatic 239, 3) := by decide +kernel
theorem dX6_gcd_10 : decode cX6_gcd 10 = .ok (.lstore 6, 2) := by decide +kernel
theorem dX6_gcd_12 : decode cX6_gcd 12 = .ok (.iconst 0, 1) := by decide +kernel
theorem dX6_gcd_13 : decode cX6_gcd 13 = .ok (.istore 8, 2) := by decide +kernel
theorem dX6_gcd_15 : decode cX6_gcd 15 = .ok (.iload 8, 2) := by decide +kernel
theorem dX6_gcd_17 : decode cX6_gcd 17 = .ok (.bipush 100, 2) := by decide +kernel
theorem dX6_gcd_19 : decode cX6_gcd 19 = .ok (.if_icmp .ge 31, 3) := by decide +kernel
theorem dX6_gcd_22 : decode cX6_gcd 22 = .ok (.lload 6, 2) := by decide +kernel
theorem dX6_gcd_24 : decode cX6_gcd 24 = .ok (.lconst 0, 1) := by decide +kernel
theorem dX6_gcd_25 : decode cX6_gcd 25 = .ok (.lcmp, 1) := by decide +kernel
theorem dX6_gcd_26 : decode cX6_gcd 26 = .ok (.ifCond .eq 24, 3) := by decide +kernel
theorem dX6_gcd_29 : decode cX6_gcd 29 = .ok (.lload 4, 2) := by decide +kernel
theorem dX6_gcd_31 : decode cX6_gcd 31 = .ok (.lload 6, 2) := by decide +kernel
theorem dX6_gcd_33 : decode cX6_gcd 33 = .ok (.lrem, 1) := by decide +kernel
theorem dX6_gcd_34 : decode cX6_gcd 34 = .ok (.lstore 9, 2) := by decide +kernel
theorem dX6_gcd_36 : decode cX6_gcd 36 = .ok (.lload 6, 2) := by decide +kernel
theorem dX6_gcd_38 : decode cX6_gcd 38 = .ok (.lstore 4, 2) := by decide +kernel
theorem dX6_gcd_40 : decode cX6_gcd 40 = .ok (.lload 9, 2) := by decide +kernel
theorem dX6_gcd_42 : decode cX6_gcd 42 = .ok (.lstore 6, 2) := by decide +kernel
theorem dX6_gcd_44 : decode cX6_gcd 44 = .ok (.iinc 8 1, 3) := by decide +kernel
theorem dX6_gcd_47 : decode cX6_gcd 47 = .ok (.goto (-32), 3) := by decide +kernel
theorem dX6_gcd_50 : decode cX6_gcd 50 = .ok (.lload 4, 2) := by decide +kernel
theorem dX6_gcd_52 : decode cX6_gcd 52 = .ok (.lreturn, 1) := by decide +kernel
theorem dX6_side_0 : decode cX6_side 0 = .ok (.lload_n 0, 1) := by decide +kernel
theorem dX6_side_1 : decode cX6_side 1 = .ok (.lload_n 2, 1) := by decide +kernel
theorem dX6_side_2 : decode cX6_side 2 = .ok (.invokestatic 245, 3) := by decide +kernel
theorem dX6_side_5 : decode cX6_side 5 = .ok (.lstore 5, 2) := by decide +kernel
theorem dX6_side_7 : decode cX6_side 7 = .ok (.lload 5, 2) := by decide +kernel
theorem dX6_side_9 : decode cX6_side 9 = .ok (.lconst 0, 1) := by decide +kernel
theorem dX6_side_10 : decode cX6_side 10 = .ok (.lcmp, 1) := by decide +kernel
theorem dX6_side_11 : decode cX6_side 11 = .ok (.ifCond .ne 7, 3) := by decide +kernel
theorem dX6_side_14 : decode cX6_side 14 = .ok (.ldc2_w 131, 3) := by decide +kernel
theorem dX6_side_17 : decode cX6_side 17 = .ok (.lreturn, 1) := by decide +kernel
theorem dX6_side_18 : decode cX6_side 18 = .ok (.iload 4, 2) := by decide +kernel
theorem dX6_side_20 : decode cX6_side 20 = .ok (.ifCond .ne 7, 3) := by decide +kernel
theorem dX6_side_23 : decode cX6_side 23 = .ok (.lload_n 0, 1) := by decide +kernel
theorem dX6_side_24 : decode cX6_side 24 = .ok (.goto 4, 3) := by decide +kernel
theorem dX6_side_27 : decode cX6_side 27 = .ok (.lload_n 2, 1) := by decide +kernel
theorem dX6_side_28 : decode cX6_side 28 = .ok (.lload 5, 2) := by decide +kernel
theorem dX6_side_30 : decode cX6_side 30 = .ok (.ldiv, 1) := by decide +kernel
theorem dX6_side_31 : decode cX6_side 31 = .ok (.lreturn, 1) := by decide +kernel
theorem dX6_lessSide_0 : decode cX6_lessSide 0 = .ok (.lload_n 0, 1) := by decide +kernel
theorem dX6_lessSide_1 : decode cX6_lessSide 1 = .ok (.lload 6, 2) := by decide +kernel
theorem dX6_lessSide_3 : decode cX6_lessSide 3 = .ok (.lmul, 1) := by decide +kernel
theorem dX6_lessSide_4 : decode cX6_lessSide 4 = .ok (.lload 4, 2) := by decide +kernel
theorem dX6_lessSide_6 : decode cX6_lessSide 6 = .ok (.lload_n 2, 1) := by decide +kernel
theorem dX6_lessSide_7 : decode cX6_lessSide 7 = .ok (.lmul, 1) := by decide +kernel
theorem dX6_lessSide_8 : decode cX6_lessSide 8 = .ok (.lsub, 1) := by decide +kernel
theorem dX6_lessSide_9 : decode cX6_lessSide 9 = .ok (.lload_n 2, 1) := by decide +kernel
theorem dX6_lessSide_10 : decode cX6_lessSide 10 = .ok (.lload 6, 2) := by decide +kernel
theorem dX6_lessSide_12 : decode cX6_lessSide 12 = .ok (.lmul, 1) := by decide +kernel
theorem dX6_lessSide_13 : decode cX6_lessSide 13 = .ok (.iload 8, 2) := by decide +kernel
theorem dX6_lessSide_15 : decode cX6_lessSide 15 = .ok (.invokestatic 147, 3) := by decide +kernel
theorem dX6_lessSide_18 : decode cX6_lessSide 18 = .ok (.lreturn, 1) := by decide +kernel
theorem dX6_forgetClearings_0 : decode cX6_forgetClearings 0 = .ok (.aload_n 0, 1) := by decide +kernel
theorem dX6_forgetClearings_1 : decode cX6_forgetClearings 1 = .ok (.iconst 0, 1) := by decide +kernel
theorem dX6_forgetClearings_2 : decode cX6_forgetClearings 2 = .ok (.putfield 60, 3) := by decide +kernel
theorem dX6_forgetClearings_5 : decode cX6_forgetClearings 5 = .ok (.aload_n 0, 1) := by decide +kernel
theorem dX6_forgetClearings_6 : decode cX6_forgetClearings 6 = .ok (.iconst 0, 1) := by decide +kernel
theorem dX6_forgetClearings_7 : decode cX6_forgetClearings 7 = .ok (.putfield 64, 3) := by decide +kernel
theorem dX6_forgetClearings_10 : decode cX6_forgetClearings 10 = .ok (.return_, 1) := by decide +kernel
theorem dX6_known_0 : decode cX6_known 0 = .ok (.iload_n 1, 1) := by decide +kernel
theorem dX6_known_1 : decode cX6_known 1 = .ok (.ifCond .eq 43, 3) := by decide +kernel
theorem dX6_known_4 : decode cX6_known 4 = .ok (.aload_n 0, 1) := by decide +kernel
theorem dX6_known_5 : decode cX6_known 5 = .ok (.getfield 64, 3) := by decide +kernel
theorem dX6_known_8 : decode cX6_known 8 = .ok (.ifCond .ne 26, 3) := by decide +kernel
theorem dX6_known_11 : decode cX6_known 11 = .ok (.aload_n 0, 1) := by decide +kernel
theorem dX6_known_12 : decode cX6_known 12 = .ok (.getfield 26, 3) := by decide +kernel
theorem dX6_known_15 : decode cX6_known 15 = .ok (.aload_n 0, 1) := by decide +kernel
theorem dX6_known_16 : decode cX6_known 16 = .ok (.getfield 53, 3) := by decide +kernel
theorem dX6_known_19 : decode cX6_known 19 = .ok (.iconst 1, 1) := by decide +kernel
theorem dX6_known_20 : decode cX6_known 20 = .ok (.aload_n 0, 1) := by decide +kernel
theorem dX6_known_21 : decode cX6_known 21 = .ok (.getfield 53, 3) := by decide +kernel
theorem dX6_known_24 : decode cX6_known 24 = .ok (.invokevirtual 157, 3) := by decide +kernel
theorem dX6_known_27 : decode cX6_known 27 = .ok (.aload_n 0, 1) := by decide +kernel
theorem dX6_known_28 : decode cX6_known 28 = .ok (.getfield 37, 3) := by decide +kernel
theorem dX6_known_31 : decode cX6_known 31 = .ok (.invokevirtual 161, 3) := by decide +kernel
theorem dX6_known_34 : decode cX6_known 34 = .ok (.aload_n 0, 1) := by decide +kernel
theorem dX6_known_35 : decode cX6_known 35 = .ok (.iconst 1, 1) := by decide +kernel
theorem dX6_known_36 : decode cX6_known 36 = .ok (.putfield 64, 3) := by decide +kernel
theorem dX6_known_39 : decode cX6_known 39 = .ok (.aload_n 0, 1) := by decide +kernel
theorem dX6_known_40 : decode cX6_known 40 = .ok (.getfield 37, 3) := by decide +kernel
theorem dX6_known_43 : decode cX6_known 43 = .ok (.areturn, 1) := by decide +kernel
theorem dX6_known_44 : decode cX6_known 44 = .ok (.aload_n 0, 1) := by decide +kernel
theorem dX6_known_45 : decode cX6_known 45 = .ok (.getfield 60, 3) := by decide +kernel
theorem dX6_known_48 : decode cX6_known 48 = .ok (.ifCond .ne 26, 3) := by decide +kernel
theorem dX6_known_51 : decode cX6_known 51 = .ok (.aload_n 0, 1) := by decide +kernel
theorem dX6_known_52 : decode cX6_known 52 = .ok (.getfield 26, 3) := by decide +kernel
theorem dX6_known_55 : decode cX6_known 55 = .ok (.aload_n 0, 1) := by decide +kernel
theorem dX6_known_56 : decode cX6_known 56 = .ok (.getfield 53, 3) := by decide +kernel
theorem dX6_known_59 : decode cX6_known 59 = .ok (.iconst 0, 1) := by decide +kernel
theorem dX6_known_60 : decode cX6_known 60 = .ok (.aload_n 0, 1) := by decide +kernel
theorem dX6_known_61 : decode cX6_known 61 = .ok (.getfield 53, 3) := by decide +kernel
theorem dX6_known_64 : decode cX6_known 64 = .ok (.invokevirtual 157, 3) := by decide +kernel
theorem dX6_known_67 : decode cX6_known 67 = .ok (.aload_n 0, 1) := by decide +kernel
theorem dX6_known_68 : decode cX6_known 68 = .ok (.getfield 33, 3) := by decide +kernel
theorem dX6_known_71 : decode cX6_known 71 = .ok (.invokevirtual 161, 3) := by decide +kernel
theorem dX6_known_74 : decode cX6_known 74 = .ok (.aload_n 0, 1) := by decide +kernel
theorem dX6_known_75 : decode cX6_known 75 = .ok (.iconst 1, 1) := by decide +kernel
theorem dX6_known_76 : decode cX6_known 76 = .ok (.putfield 60, 3) := by decide +kernel
theorem dX6_known_79 : decode cX6_known 79 = .ok (.aload_n 0, 1) := by decide +kernel
theorem dX6_known_80 : decode cX6_known 80 = .ok (.getfield 33, 3) := by decide +kernel
theorem dX6_known_83 : decode cX6_known 83 = .ok (.areturn, 1) := by decide +kernel
theorem dX6_leastClash_0 : decode cX6_leastClash 0 = .ok (.iconst 1, 1) := by decide +kernel
theorem dX6_leastClash_1 : decode cX6_leastClash 1 = .ok (.istore_n 2, 1) := by decide +kernel
theorem dX6_leastClash_2 : decode cX6_leastClash 2 = .ok (.iload_n 2, 1) := by decide +kernel
theorem dX6_leastClash_3 : decode cX6_leastClash 3 = .ok (.bipush 32, 2) := by decide +kernel
theorem dX6_leastClash_5 : decode cX6_leastClash 5 = .ok (.if_icmp .ge 62, 3) := by decide +kernel
theorem dX6_leastClash_8 : decode cX6_leastClash 8 = .ok (.iload_n 2, 1) := by decide +kernel
theorem dX6_leastClash_9 : decode cX6_leastClash 9 = .ok (.invokestatic 249, 3) := by decide +kernel
theorem dX6_leastClash_12 : decode cX6_leastClash 12 = .ok (.iload_n 1, 1) := by decide +kernel
theorem dX6_leastClash_13 : decode cX6_leastClash 13 = .ok (.if_icmp .eq 6, 3) := by decide +kernel
theorem dX6_leastClash_16 : decode cX6_leastClash 16 = .ok (.goto 45, 3) := by decide +kernel
theorem dX6_leastClash_19 : decode cX6_leastClash 19 = .ok (.aload_n 0, 1) := by decide +kernel
theorem dX6_leastClash_20 : decode cX6_leastClash 20 = .ok (.iload_n 2, 1) := by decide +kernel
theorem dX6_leastClash_21 : decode cX6_leastClash 21 = .ok (.invokevirtual 254, 3) := by decide +kernel
theorem dX6_leastClash_24 : decode cX6_leastClash 24 = .ok (.istore_n 3, 1) := by decide +kernel
theorem dX6_leastClash_25 : decode cX6_leastClash 25 = .ok (.iload_n 3, 1) := by decide +kernel
theorem dX6_leastClash_26 : decode cX6_leastClash 26 = .ok (.ifCond .ge 6, 3) := by decide +kernel
theorem dX6_leastClash_29 : decode cX6_leastClash 29 = .ok (.goto 32, 3) := by decide +kernel
theorem dX6_leastClash_32 : decode cX6_leastClash 32 = .ok (.aload_n 0, 1) := by decide +kernel
theorem dX6_leastClash_33 : decode cX6_leastClash 33 = .ok (.getfield 26, 3) := by decide +kernel
theorem dX6_leastClash_36 : decode cX6_leastClash 36 = .ok (.aload_n 0, 1) := by decide +kernel
theorem dX6_leastClash_37 : decode cX6_leastClash 37 = .ok (.getfield 53, 3) := by decide +kernel
theorem dX6_leastClash_40 : decode cX6_leastClash 40 = .ok (.iconst 1, 1) := by decide +kernel
theorem dX6_leastClash_41 : decode cX6_leastClash 41 = .ok (.iload_n 3, 1) := by decide +kernel
theorem dX6_leastClash_42 : decode cX6_leastClash 42 = .ok (.aload_n 0, 1) := by decide +kernel
theorem dX6_leastClash_43 : decode cX6_leastClash 43 = .ok (.getfield 40, 3) := by decide +kernel
theorem dX6_leastClash_46 : decode cX6_leastClash 46 = .ok (.invokevirtual 161, 3) := by decide +kernel
theorem dX6_leastClash_49 : decode cX6_leastClash 49 = .ok (.aload_n 0, 1) := by decide +kernel
theorem dX6_leastClash_50 : decode cX6_leastClash 50 = .ok (.getfield 40, 3) := by decide +kernel
theorem dX6_leastClash_53 : decode cX6_leastClash 53 = .ok (.getfield 137, 3) := by decide +kernel
theorem dX6_leastClash_56 : decode cX6_leastClash 56 = .ok (.ifCond .ne 5, 3) := by decide +kernel
theorem dX6_leastClash_59 : decode cX6_leastClash 59 = .ok (.iload_n 2, 1) := by decide +kernel
theorem dX6_leastClash_60 : decode cX6_leastClash 60 = .ok (.ireturn, 1) := by decide +kernel
theorem dX6_leastClash_61 : decode cX6_leastClash 61 = .ok (.iinc 2 1, 3) := by decide +kernel
theorem dX6_leastClash_64 : decode cX6_leastClash 64 = .ok (.goto (-62), 3) := by decide +kernel
theorem dX6_leastClash_67 : decode cX6_leastClash 67 = .ok (.iconst 0, 1) := by decide +kernel
theorem dX6_leastClash_68 : decode cX6_leastClash 68 = .ok (.ireturn, 1) := by decide +kernel
theorem dX6_lettersOf_0 : decode cX6_lettersOf 0 = .ok (.iconst 0, 1) := by decide +kernel
theorem dX6_lettersOf_1 : decode cX6_lettersOf 1 = .ok (.istore_n 2, 1) := by decide +kernel
theorem dX6_lettersOf_2 : decode cX6_lettersOf 2 = .ok (.iconst 0, 1) := by decide +kernel
theorem dX6_lettersOf_3 : decode cX6_lettersOf 3 = .ok (.istore_n 3, 1) := by decide +kernel
theorem dX6_lettersOf_4 : decode cX6_lettersOf 4 = .ok (.iload_n 3, 1) := by decide +kernel
theorem dX6_lettersOf_5 : decode cX6_lettersOf 5 = .ok (.iconst 5, 1) := by decide +kernel
theorem dX6_lettersOf_6 : decode cX6_lettersOf 6 = .ok (.if_icmp .ge 57, 3) := by decide +kernel
theorem dX6_lettersOf_9 : decode cX6_lettersOf 9 = .ok (.iload_n 1, 1) := by decide +kernel
theorem dX6_lettersOf_10 : decode cX6_lettersOf 10 = .ok (.iload_n 3, 1) := by decide +kernel
theorem dX6_lettersOf_11 : decode cX6_lettersOf 11 = .ok (.ishr, 1) := by decide +kernel
theorem dX6_lettersOf_12 : decode cX6_lettersOf 12 = .ok (.iconst 1, 1) := by decide +kernel
theorem dX6_lettersOf_13 : decode cX6_lettersOf 13 = .ok (.iand, 1) := by decide +kernel
theorem dX6_lettersOf_14 : decode cX6_lettersOf 14 = .ok (.ifCond .ne 6, 3) := by decide +kernel
theorem dX6_lettersOf_17 : decode cX6_lettersOf 17 = .ok (.goto 40, 3) := by decide +kernel
theorem dX6_lettersOf_20 : decode cX6_lettersOf 20 = .ok (.aload_n 0, 1) := by decide +kernel
theorem dX6_lettersOf_21 : decode cX6_lettersOf 21 = .ok (.getfield 53, 3) := by decide +kernel
theorem dX6_lettersOf_24 : decode cX6_lettersOf 24 = .ok (.iload_n 3, 1) := by decide +kernel
theorem dX6_lettersOf_25 : decode cX6_lettersOf 25 = .ok (.invokevirtual 89, 3) := by decide +kernel
theorem dX6_lettersOf_28 : decode cX6_lettersOf 28 = .ok (.istore 4, 2) := by decide +kernel
theorem dX6_lettersOf_30 : decode cX6_lettersOf 30 = .ok (.iload 4, 2) := by decide +kernel
theorem dX6_lettersOf_32 : decode cX6_lettersOf 32 = .ok (.ifCond .lt 16, 3) := by decide +kernel
theorem dX6_lettersOf_35 : decode cX6_lettersOf 35 = .ok (.aload_n 0, 1) := by decide +kernel
theorem dX6_lettersOf_36 : decode cX6_lettersOf 36 = .ok (.getfield 53, 3) := by decide +kernel
theorem dX6_lettersOf_39 : decode cX6_lettersOf 39 = .ok (.getfield 105, 3) := by decide +kernel
theorem dX6_lettersOf_42 : decode cX6_lettersOf 42 = .ok (.iload 4, 2) := by decide +kernel
theorem dX6_lettersOf_44 : decode cX6_lettersOf 44 = .ok (.baload, 1) := by decide +kernel
theorem dX6_lettersOf_45 : decode cX6_lettersOf 45 = .ok (.ifCond .eq 5, 3) := by decide +kernel
theorem dX6_lettersOf_48 : decode cX6_lettersOf 48 = .ok (.iconst (-1), 1) := by decide +kernel
theorem dX6_lettersOf_49 : decode cX6_lettersOf 49 = .ok (.ireturn, 1) := by decide +kernel
theorem dX6_lettersOf_50 : decode cX6_lettersOf 50 = .ok (.iload_n 2, 1) := by decide +kernel
theorem dX6_lettersOf_51 : decode cX6_lettersOf 51 = .ok (.iconst 1, 1) := by decide +kernel
theorem dX6_lettersOf_52 : decode cX6_lettersOf 52 = .ok (.iload 4, 2) := by decide +kernel
theorem dX6_lettersOf_54 : decode cX6_lettersOf 54 = .ok (.ishl, 1) := by decide +kernel
theorem dX6_lettersOf_55 : decode cX6_lettersOf 55 = .ok (.ior, 1) := by decide +kernel
theorem dX6_lettersOf_56 : decode cX6_lettersOf 56 = .ok (.istore_n 2, 1) := by decide +kernel
theorem dX6_lettersOf_57 : decode cX6_lettersOf 57 = .ok (.iinc 3 1, 3) := by decide +kernel
theorem dX6_lettersOf_60 : decode cX6_lettersOf 60 = .ok (.goto (-56), 3) := by decide +kernel
theorem dX6_lettersOf_63 : decode cX6_lettersOf 63 = .ok (.iload_n 2, 1) := by decide +kernel
theorem dX6_lettersOf_64 : decode cX6_lettersOf 64 = .ok (.ireturn, 1) := by decide +kernel
theorem dX6_findWithout_0 : decode cX6_findWithout 0 = .ok (.aload_n 0, 1) := by decide +kernel
theorem dX6_findWithout_1 : decode cX6_findWithout 1 = .ok (.getfield 53, 3) := by decide +kernel
theorem dX6_findWithout_4 : decode cX6_findWithout 4 = .ok (.getfield 121, 3) := by decide +kernel
theorem dX6_findWithout_7 : decode cX6_findWithout 7 = .ok (.iload_n 1, 1) := by decide +kernel
theorem dX6_findWithout_8 : decode cX6_findWithout 8 = .ok (.baload, 1) := by decide +kernel
theorem dX6_findWithout_9 : decode cX6_findWithout 9 = .ok (.istore_n 2, 1) := by decide +kernel
theorem dX6_findWithout_10 : decode cX6_findWithout 10 = .ok (.aload_n 0, 1) := by decide +kernel
theorem dX6_findWithout_11 : decode cX6_findWithout 11 = .ok (.getfield 53, 3) := by decide +kernel
theorem dX6_findWithout_14 : decode cX6_findWithout 14 = .ok (.getfield 121, 3) := by decide +kernel
theorem dX6_findWithout_17 : decode cX6_findWithout 17 = .ok (.iload_n 1, 1) := by decide +kernel
theorem dX6_findWithout_18 : decode cX6_findWithout 18 = .ok (.iconst 1, 1) := by decide +kernel
theorem dX6_findWithout_19 : decode cX6_findWithout 19 = .ok (.bastore, 1) := by decide +kernel
theorem dX6_findWithout_20 : decode cX6_findWithout 20 = .ok (.aload_n 0, 1) := by decide +kernel
theorem dX6_findWithout_21 : decode cX6_findWithout 21 = .ok (.getfield 26, 3) := by decide +kernel
theorem dX6_findWithout_24 : decode cX6_findWithout 24 = .ok (.aload_n 0, 1) := by decide +kernel
theorem dX6_findWithout_25 : decode cX6_findWithout 25 = .ok (.getfield 53, 3) := by decide +kernel
theorem dX6_findWithout_28 : decode cX6_findWithout 28 = .ok (.iconst 0, 1) := by decide +kernel
theorem dX6_findWithout_29 : decode cX6_findWithout 29 = .ok (.aload_n 0, 1) := by decide +kernel
theorem dX6_findWithout_30 : decode cX6_findWithout 30 = .ok (.getfield 53, 3) := by decide +kernel
theorem dX6_findWithout_33 : decode cX6_findWithout 33 = .ok (.invokevirtual 157, 3) := by decide +kernel
theorem dX6_findWithout_36 : decode cX6_findWithout 36 = .ok (.aload_n 0, 1) := by decide +kernel
theorem dX6_findWithout_37 : decode cX6_findWithout 37 = .ok (.getfield 40, 3) := by decide +kernel
theorem dX6_findWithout_40 : decode cX6_findWithout 40 = .ok (.invokevirtual 161, 3) := by decide +kernel
theorem dX6_findWithout_43 : decode cX6_findWithout 43 = .ok (.aload_n 0, 1) := by decide +kernel
theorem dX6_findWithout_44 : decode cX6_findWithout 44 = .ok (.getfield 53, 3) := by decide +kernel
theorem dX6_findWithout_47 : decode cX6_findWithout 47 = .ok (.getfield 121, 3) := by decide +kernel
theorem dX6_findWithout_50 : decode cX6_findWithout 50 = .ok (.iload_n 1, 1) := by decide +kernel
theorem dX6_findWithout_51 : decode cX6_findWithout 51 = .ok (.iload_n 2, 1) := by decide +kernel
theorem dX6_findWithout_52 : decode cX6_findWithout 52 = .ok (.bastore, 1) := by decide +kernel
theorem dX6_findWithout_53 : decode cX6_findWithout 53 = .ok (.return_, 1) := by decide +kernel
theorem dX6_findWorth_0 : decode cX6_findWorth 0 = .ok (.aload_n 0, 1) := by decide +kernel
theorem dX6_findWorth_1 : decode cX6_findWorth 1 = .ok (.getfield 53, 3) := by decide +kernel
theorem dX6_findWorth_4 : decode cX6_findWorth 4 = .ok (.getfield 112, 3) := by decide +kernel
theorem dX6_findWorth_7 : decode cX6_findWorth 7 = .ok (.iload_n 1, 1) := by decide +kernel
theorem dX6_findWorth_8 : decode cX6_findWorth 8 = .ok (.iaload, 1) := by decide +kernel
theorem dX6_findWorth_9 : decode cX6_findWorth 9 = .ok (.istore_n 3, 1) := by decide +kernel
theorem dX6_findWorth_10 : decode cX6_findWorth 10 = .ok (.aload_n 0, 1) := by decide +kernel
theorem dX6_findWorth_11 : decode cX6_findWorth 11 = .ok (.getfield 53, 3) := by decide +kernel
theorem dX6_findWorth_14 : decode cX6_findWorth 14 = .ok (.getfield 112, 3) := by decide +kernel
theorem dX6_findWorth_17 : decode cX6_findWorth 17 = .ok (.iload_n 1, 1) := by decide +kernel
theorem dX6_findWorth_18 : decode cX6_findWorth 18 = .ok (.iload_n 2, 1) := by decide +kernel
theorem dX6_findWorth_19 : decode cX6_findWorth 19 = .ok (.iastore, 1) := by decide +kernel
theorem dX6_findWorth_20 : decode cX6_findWorth 20 = .ok (.aload_n 0, 1) := by decide +kernel
theorem dX6_findWorth_21 : decode cX6_findWorth 21 = .ok (.getfield 26, 3) := by decide +kernel
theorem dX6_findWorth_24 : decode cX6_findWorth 24 = .ok (.aload_n 0, 1) := by decide +kernel
theorem dX6_findWorth_25 : decode cX6_findWorth 25 = .ok (.getfield 53, 3) := by decide +kernel
theorem dX6_findWorth_28 : decode cX6_findWorth 28 = .ok (.iconst 0, 1) := by decide +kernel
theorem dX6_findWorth_29 : decode cX6_findWorth 29 = .ok (.aload_n 0, 1) := by decide +kernel
theorem dX6_findWorth_30 : decode cX6_findWorth 30 = .ok (.getfield 53, 3) := by decide +kernel
theorem dX6_findWorth_33 : decode cX6_findWorth 33 = .ok (.invokevirtual 157, 3) := by decide +kernel
theorem dX6_findWorth_36 : decode cX6_findWorth 36 = .ok (.aload_n 0, 1) := by decide +kernel
theorem dX6_findWorth_37 : decode cX6_findWorth 37 = .ok (.getfield 40, 3) := by decide +kernel
theorem dX6_findWorth_40 : decode cX6_findWorth 40 = .ok (.invokevirtual 161, 3) := by decide +kernel
theorem dX6_findWorth_43 : decode cX6_findWorth 43 = .ok (.aload_n 0, 1) := by decide +kernel
theorem dX6_findWorth_44 : decode cX6_findWorth 44 = .ok (.getfield 53, 3) := by decide +kernel
theorem dX6_findWorth_47 : decode cX6_findWorth 47 = .ok (.getfield 112, 3) := by decide +kernel
theorem dX6_findWorth_50 : decode cX6_findWorth 50 = .ok (.iload_n 1, 1) := by decide +kernel
theorem dX6_findWorth_51 : decode cX6_findWorth 51 = .ok (.iload_n 3, 1) := by decide +kernel
theorem dX6_findWorth_52 : decode cX6_findWorth 52 = .ok (.iastore, 1) := by decide +kernel
theorem dX6_findWorth_53 : decode cX6_findWorth 53 = .ok (.return_, 1) := by decide +kernel
theorem dX6_sumOfTable_0 : decode cX6_sumOfTable 0 = .ok (.aload_n 0, 1) := by decide +kernel
theorem dX6_sumOfTable_1 : decode cX6_sumOfTable 1 = .ok (.dup, 1) := by decide +kernel
theorem dX6_sumOfTable_2 : decode cX6_sumOfTable 2 = .ok (.getfield 67, 3) := by decide +kernel
theorem dX6_sumOfTable_5 : decode cX6_sumOfTable 5 = .ok (.lconst 1, 1) := by decide +kernel
theorem dX6_sumOfTable_6 : decode cX6_sumOfTable 6 = .ok (.ladd, 1) := by decide +kernel
theorem dX6_sumOfTable_7 : decode cX6_sumOfTable 7 = .ok (.putfield 67, 3) := by decide +kernel
theorem dX6_sumOfTable_10 : decode cX6_sumOfTable 10 = .ok (.aload_n 0, 1) := by decide +kernel
theorem dX6_sumOfTable_11 : decode cX6_sumOfTable 11 = .ok (.getfield 53, 3) := by decide +kernel
theorem dX6_sumOfTable_14 : decode cX6_sumOfTable 14 = .ok (.invokevirtual 230, 3) := by decide +kernel
theorem dX6_sumOfTable_17 : decode cX6_sumOfTable 17 = .ok (.aload_n 0, 1) := by decide +kernel
theorem dX6_sumOfTable_18 : decode cX6_sumOfTable 18 = .ok (.getfield 53, 3) := by decide +kernel
theorem dX6_sumOfTable_21 : decode cX6_sumOfTable 21 = .ok (.getfield 212, 3) := by decide +kernel
theorem dX6_sumOfTable_24 : decode cX6_sumOfTable 24 = .ok (.iadd, 1) := by decide +kernel
theorem dX6_sumOfTable_25 : decode cX6_sumOfTable 25 = .ok (.iconst 1, 1) := by decide +kernel
theorem dX6_sumOfTable_26 : decode cX6_sumOfTable 26 = .ok (.iadd, 1) := by decide +kernel
theorem dX6_sumOfTable_27 : decode cX6_sumOfTable 27 = .ok (.ireturn, 1) := by decide +kernel
theorem dX6_sumOfNet_0 : decode cX6_sumOfNet 0 = .ok (.aload_n 0, 1) := by decide +kernel
theorem dX6_sumOfNet_1 : decode cX6_sumOfNet 1 = .ok (.dup, 1) := by decide +kernel
theorem dX6_sumOfNet_2 : decode cX6_sumOfNet 2 = .ok (.getfield 67, 3) := by decide +kernel
theorem dX6_sumOfNet_5 : decode cX6_sumOfNet 5 = .ok (.ldc2_w 257, 3) := by decide +kernel
theorem dX6_sumOfNet_8 : decode cX6_sumOfNet 8 = .ok (.ladd, 1) := by decide +kernel
theorem dX6_sumOfNet_9 : decode cX6_sumOfNet 9 = .ok (.putfield 67, 3) := by decide +kernel
theorem dX6_sumOfNet_12 : decode cX6_sumOfNet 12 = .ok (.aload_n 0, 1) := by decide +kernel
theorem dX6_sumOfNet_13 : decode cX6_sumOfNet 13 = .ok (.invokevirtual 215, 3) := by decide +kernel
theorem dX6_sumOfNet_16 : decode cX6_sumOfNet 16 = .ok (.aload_n 0, 1) := by decide +kernel
theorem dX6_sumOfNet_17 : decode cX6_sumOfNet 17 = .ok (.getfield 53, 3) := by decide +kernel
theorem dX6_sumOfNet_20 : decode cX6_sumOfNet 20 = .ok (.invokevirtual 259, 3) := by decide +kernel
theorem dX6_sumOfNet_23 : decode cX6_sumOfNet 23 = .ok (.isub, 1) := by decide +kernel
theorem dX6_sumOfNet_24 : decode cX6_sumOfNet 24 = .ok (.ireturn, 1) := by decide +kernel
theorem dX6_sumOfWhole_0 : decode cX6_sumOfWhole 0 = .ok (.aload_n 0, 1) := by decide +kernel
theorem dX6_sumOfWhole_1 : decode cX6_sumOfWhole 1 = .ok (.dup, 1) := by decide +kernel
theorem dX6_sumOfWhole_2 : decode cX6_sumOfWhole 2 = .ok (.getfield 67, 3) := by decide +kernel
theorem dX6_sumOfWhole_5 : decode cX6_sumOfWhole 5 = .ok (.ldc2_w 262, 3) := by decide +kernel
theorem dX6_sumOfWhole_8 : decode cX6_sumOfWhole 8 = .ok (.ladd, 1) := by decide +kernel
theorem dX6_sumOfWhole_9 : decode cX6_sumOfWhole 9 = .ok (.putfield 67, 3) := by decide +kernel
theorem dX6_sumOfWhole_12 : decode cX6_sumOfWhole 12 = .ok (.aload_n 0, 1) := by decide +kernel
theorem dX6_sumOfWhole_13 : decode cX6_sumOfWhole 13 = .ok (.invokevirtual 215, 3) := by decide +kernel
theorem dX6_sumOfWhole_16 : decode cX6_sumOfWhole 16 = .ok (.iconst 2, 1) := by decide +kernel
theorem dX6_sumOfWhole_17 : decode cX6_sumOfWhole 17 = .ok (.aload_n 0, 1) := by decide +kernel
theorem dX6_sumOfWhole_18 : decode cX6_sumOfWhole 18 = .ok (.getfield 53, 3) := by decide +kernel
theorem dX6_sumOfWhole_21 : decode cX6_sumOfWhole 21 = .ok (.invokevirtual 264, 3) := by decide +kernel
theorem dX6_sumOfWhole_24 : decode cX6_sumOfWhole 24 = .ok (.imul, 1) := by decide +kernel
theorem dX6_sumOfWhole_25 : decode cX6_sumOfWhole 25 = .ok (.iadd, 1) := by decide +kernel
theorem dX6_sumOfWhole_26 : decode cX6_sumOfWhole 26 = .ok (.ireturn, 1) := by decide +kernel
theorem dX6_sumOfCut_0 : decode cX6_sumOfCut 0 = .ok (.aload_n 0, 1) := by decide +kernel
theorem dX6_sumOfCut_1 : decode cX6_sumOfCut 1 = .ok (.dup, 1) := by decide +kernel
theorem dX6_sumOfCut_2 : decode cX6_sumOfCut 2 = .ok (.getfield 67, 3) := by decide +kernel
theorem dX6_sumOfCut_5 : decode cX6_sumOfCut 5 = .ok (.ldc2_w 267, 3) := by decide +kernel
theorem dX6_sumOfCut_8 : decode cX6_sumOfCut 8 = .ok (.ladd, 1) := by decide +kernel
theorem dX6_sumOfCut_9 : decode cX6_sumOfCut 9 = .ok (.putfield 67, 3) := by decide +kernel
theorem dX6_sumOfCut_12 : decode cX6_sumOfCut 12 = .ok (.aload_n 0, 1) := by decide +kernel
theorem dX6_sumOfCut_13 : decode cX6_sumOfCut 13 = .ok (.invokevirtual 221, 3) := by decide +kernel
theorem dX6_sumOfCut_16 : decode cX6_sumOfCut 16 = .ok (.istore_n 1, 1) := by decide +kernel
theorem dX6_sumOfCut_17 : decode cX6_sumOfCut 17 = .ok (.iload_n 1, 1) := by decide +kernel
theorem dX6_sumOfCut_18 : decode cX6_sumOfCut 18 = .ok (.iload_n 1, 1) := by decide +kernel
theorem dX6_sumOfCut_19 : decode cX6_sumOfCut 19 = .ok (.imul, 1) := by decide +kernel
theorem dX6_sumOfCut_20 : decode cX6_sumOfCut 20 = .ok (.bipush 97, 2) := by decide +kernel
theorem dX6_sumOfCut_22 : decode cX6_sumOfCut 22 = .ok (.irem, 1) := by decide +kernel
theorem dX6_sumOfCut_23 : decode cX6_sumOfCut 23 = .ok (.ireturn, 1) := by decide +kernel
theorem dX6_sumOfChanged_0 : decode cX6_sumOfChanged 0 = .ok (.aload_n 0, 1) := by decide +kernel
theorem dX6_sumOfChanged_1 : decode cX6_sumOfChanged 1 = .ok (.dup, 1) := by decide +kernel
theorem dX6_sumOfChanged_2 : decode cX6_sumOfChanged 2 = .ok (.getfield 67, 3) := by decide +kernel
theorem dX6_sumOfChanged_5 : decode cX6_sumOfChanged 5 = .ok (.ldc2_w 269, 3) := by decide +kernel
theorem dX6_sumOfChanged_8 : decode cX6_sumOfChanged 8 = .ok (.ladd, 1) := by decide +kernel
theorem dX6_sumOfChanged_9 : decode cX6_sumOfChanged 9 = .ok (.putfield 67, 3) := by decide +kernel
theorem dX6_sumOfChanged_12 : decode cX6_sumOfChanged 12 = .ok (.aload_n 0, 1) := by decide +kernel
theorem dX6_sumOfChanged_13 : decode cX6_sumOfChanged 13 = .ok (.invokevirtual 215, 3) := by decide +kernel
theorem dX6_sumOfChanged_16 : decode cX6_sumOfChanged 16 = .ok (.aload_n 0, 1) := by decide +kernel
theorem dX6_sumOfChanged_17 : decode cX6_sumOfChanged 17 = .ok (.getfield 53, 3) := by decide +kernel
theorem dX6_sumOfChanged_20 : decode cX6_sumOfChanged 20 = .ok (.invokevirtual 233, 3) := by decide +kernel
theorem dX6_sumOfChanged_23 : decode cX6_sumOfChanged 23 = .ok (.iadd, 1) := by decide +kernel
theorem dX6_sumOfChanged_24 : decode cX6_sumOfChanged 24 = .ok (.aload_n 0, 1) := by decide +kernel
theorem dX6_sumOfChanged_25 : decode cX6_sumOfChanged 25 = .ok (.getfield 53, 3) := by decide +kernel
theorem dX6_sumOfChanged_28 : decode cX6_sumOfChanged 28 = .ok (.invokevirtual 236, 3) := by decide +kernel
theorem dX6_sumOfChanged_31 : decode cX6_sumOfChanged 31 = .ok (.iadd, 1) := by decide +kernel
theorem dX6_sumOfChanged_32 : decode cX6_sumOfChanged 32 = .ok (.ireturn, 1) := by decide +kernel
theorem dX7_init_0 : decode cX7_init 0 = .ok (.aload_n 0, 1) := by decide +kernel
theorem dX7_init_1 : decode cX7_init 1 = .ok (.invokespecial 1, 3) := by decide +kernel
theorem dX7_init_4 : decode cX7_init 4 = .ok (.aload_n 0, 1) := by decide +kernel
theorem dX7_init_5 : decode cX7_init 5 = .ok (.sipush 300, 3) := by decide +kernel
theorem dX7_init_8 : decode cX7_init 8 = .ok (.newarray .byte, 2) := by decide +kernel
theorem dX7_init_10 : decode cX7_init 10 = .ok (.putfield 7, 3) := by decide +kernel
theorem dX7_init_13 : decode cX7_init 13 = .ok (.aload_n 0, 1) := by decide +kernel
theorem dX7_init_14 : decode cX7_init 14 = .ok (.iconst 5, 1) := by decide +kernel
theorem dX7_init_15 : decode cX7_init 15 = .ok (.newarray .int, 2) := by decide +kernel
theorem dX7_init_17 : decode cX7_init 17 = .ok (.putfield 13, 3) := by decide +kernel
theorem dX7_init_20 : decode cX7_init 20 = .ok (.aload_n 0, 1) := by decide +kernel
theorem dX7_init_21 : decode cX7_init 21 = .ok (.iconst 5, 1) := by decide +kernel
theorem dX7_init_22 : decode cX7_init 22 = .ok (.newarray .int, 2) := by decide +kernel
theorem dX7_init_24 : decode cX7_init 24 = .ok (.putfield 17, 3) := by decide +kernel
theorem dX7_init_27 : decode cX7_init 27 = .ok (.aload_n 0, 1) := by decide +kernel
theorem dX7_init_28 : decode cX7_init 28 = .ok (.iconst 5, 1) := by decide +kernel
theorem dX7_init_29 : decode cX7_init 29 = .ok (.newarray .int, 2) := by decide +kernel
theorem dX7_init_31 : decode cX7_init 31 = .ok (.putfield 20, 3) := by decide +kernel
theorem dX7_init_34 : decode cX7_init 34 = .ok (.aload_n 0, 1) := by decide +kernel
theorem dX7_init_35 : decode cX7_init 35 = .ok (.iconst 5, 1) := by decide +kernel
theorem dX7_init_36 : decode cX7_init 36 = .ok (.newarray .boolean, 2) := by decide +kernel
theorem dX7_init_38 : decode cX7_init 38 = .ok (.putfield 23, 3) := by decide +kernel
theorem dX7_init_41 : decode cX7_init 41 = .ok (.aload_n 0, 1) := by decide +kernel
theorem dX7_init_42 : decode cX7_init 42 = .ok (.iconst 4, 1) := by decide +kernel
theorem dX7_init_43 : decode cX7_init 43 = .ok (.newarray .int, 2) := by decide +kernel
theorem dX7_init_45 : decode cX7_init 45 = .ok (.putfield 27, 3) := by decide +kernel
theorem dX7_init_48 : decode cX7_init 48 = .ok (.aload_n 0, 1) := by decide +kernel
theorem dX7_init_49 : decode cX7_init 49 = .ok (.iconst 4, 1) := by decide +kernel
theorem dX7_init_50 : decode cX7_init 50 = .ok (.newarray .int, 2) := by decide +kernel
theorem dX7_init_52 : decode cX7_init 52 = .ok (.putfield 30, 3) := by decide +kernel
theorem dX7_init_55 : decode cX7_init 55 = .ok (.aload_n 0, 1) := by decide +kernel
theorem dX7_init_56 : decode cX7_init 56 = .ok (.iconst 4, 1) := by decide +kernel
theorem dX7_init_57 : decode cX7_init 57 = .ok (.newarray .int, 2) := by decide +kernel
theorem dX7_init_59 : decode cX7_init 59 = .ok (.putfield 33, 3) := by decide +kernel
theorem dX7_init_62 : decode cX7_init 62 = .ok (.aload_n 0, 1) := by decide +kernel
theorem dX7_init_63 : decode cX7_init 63 = .ok (.iconst 4, 1) := by decide +kernel
theorem dX7_init_64 : decode cX7_init 64 = .ok (.newarray .boolean, 2) := by decide +kernel
theorem dX7_init_66 : decode cX7_init 66 = .ok (.putfield 36, 3) := by decide +kernel
theorem dX7_init_69 : decode cX7_init 69 = .ok (.aload_n 0, 1) := by decide +kernel
theorem dX7_init_70 : decode cX7_init 70 = .ok (.bipush 20, 2) := by decide +kernel
theorem dX7_init_72 : decode cX7_init 72 = .ok (.newarray .int, 2) := by decide +kernel
theorem dX7_init_74 : decode cX7_init 74 = .ok (.putfield 39, 3) := by decide +kernel
theorem dX7_init_77 : decode cX7_init 77 = .ok (.aload_n 0, 1) := by decide +kernel
theorem dX7_init_78 : decode cX7_init 78 = .ok (.iconst 4, 1) := by decide +kernel
theorem dX7_init_79 : decode cX7_init 79 = .ok (.newarray .int, 2) := by decide +kernel
theorem dX7_init_81 : decode cX7_init 81 = .ok (.putfield 42, 3) := by decide +kernel
theorem dX7_init_84 : decode cX7_init 84 = .ok (.aload_n 0, 1) := by decide +kernel
theorem dX7_init_85 : decode cX7_init 85 = .ok (.iconst 4, 1) := by decide +kernel
theorem dX7_init_86 : decode cX7_init 86 = .ok (.newarray .int, 2) := by decide +kernel
theorem dX7_init_88 : decode cX7_init 88 = .ok (.putfield 45, 3) := by decide +kernel
theorem dX7_init_91 : decode cX7_init 91 = .ok (.aload_n 0, 1) := by decide +kernel
theorem dX7_init_92 : decode cX7_init 92 = .ok (.iconst 5, 1) := by decide +kernel
theorem dX7_init_93 : decode cX7_init 93 = .ok (.newarray .int, 2) := by decide +kernel
theorem dX7_init_95 : decode cX7_init 95 = .ok (.putfield 48, 3) := by decide +kernel
theorem dX7_init_98 : decode cX7_init 98 = .ok (.aload_n 0, 1) := by decide +kernel
theorem dX7_init_99 : decode cX7_init 99 = .ok (.iconst 5, 1) := by decide +kernel
theorem dX7_init_100 : decode cX7_init 100 = .ok (.newarray .int, 2) := by decide +kernel
theorem dX7_init_102 : decode cX7_init 102 = .ok (.putfield 51, 3) := by decide +kernel
theorem dX7_init_105 : decode cX7_init 105 = .ok (.aload_n 0, 1) := by decide +kernel
theorem dX7_init_106 : decode cX7_init 106 = .ok (.iconst 5, 1) := by decide +kernel
theorem dX7_init_107 : decode cX7_init 107 = .ok (.newarray .int, 2) := by decide +kernel
theorem dX7_init_109 : decode cX7_init 109 = .ok (.putfield 54, 3) := by decide +kernel
theorem dX7_init_112 : decode cX7_init 112 = .ok (.aload_n 0, 1) := by decide +kernel
theorem dX7_init_113 : decode cX7_init 113 = .ok (.iconst 5, 1) := by decide +kernel
theorem dX7_init_114 : decode cX7_init 114 = .ok (.newarray .int, 2) := by decide +kernel
theorem dX7_init_116 : decode cX7_init 116 = .ok (.putfield 57, 3) := by decide +kernel
theorem dX7_init_119 : decode cX7_init 119 = .ok (.aload_n 0, 1) := by decide +kernel
theorem dX7_init_120 : decode cX7_init 120 = .ok (.iconst 4, 1) := by decide +kernel
theorem dX7_init_121 : decode cX7_init 121 = .ok (.newarray .int, 2) := by decide +kernel
theorem dX7_init_123 : decode cX7_init 123 = .ok (.putfield 60, 3) := by decide +kernel
theorem dX7_init_126 : decode cX7_init 126 = .ok (.aload_n 0, 1) := by decide +kernel
theorem dX7_init_127 : decode cX7_init 127 = .ok (.iconst 4, 1) := by decide +kernel
theorem dX7_init_128 : decode cX7_init 128 = .ok (.newarray .int, 2) := by decide +kernel
theorem dX7_init_130 : decode cX7_init 130 = .ok (.putfield 63, 3) := by decide +kernel
theorem dX7_init_133 : decode cX7_init 133 = .ok (.aload_n 0, 1) := by decide +kernel
theorem dX7_init_134 : decode cX7_init 134 = .ok (.iconst 4, 1) := by decide +kernel
theorem dX7_init_135 : decode cX7_init 135 = .ok (.newarray .int, 2) := by decide +kernel
theorem dX7_init_137 : decode cX7_init 137 = .ok (.putfield 66, 3) := by decide +kernel
theorem dX7_init_140 : decode cX7_init 140 = .ok (.aload_n 0, 1) := by decide +kernel
theorem dX7_init_141 : decode cX7_init 141 = .ok (.bipush 20, 2) := by decide +kernel
theorem dX7_init_143 : decode cX7_init 143 = .ok (.newarray .int, 2) := by decide +kernel
theorem dX7_init_145 : decode cX7_init 145 = .ok (.putfield 69, 3) := by decide +kernel
theorem dX7_init_148 : decode cX7_init 148 = .ok (.aload_n 0, 1) := by decide +kernel
theorem dX7_init_149 : decode cX7_init 149 = .ok (.iconst 4, 1) := by decide +kernel
theorem dX7_init_150 : decode cX7_init 150 = .ok (.newarray .long, 2) := by decide +kernel
theorem dX7_init_152 : decode cX7_init 152 = .ok (.putfield 72, 3) := by decide +kernel
theorem dX7_init_155 : decode cX7_init 155 = .ok (.aload_n 0, 1) := by decide +kernel
theorem dX7_init_156 : decode cX7_init 156 = .ok (.iconst 4, 1) := by decide +kernel
theorem dX7_init_157 : decode cX7_init 157 = .ok (.newarray .long, 2) := by decide +kernel
theorem dX7_init_159 : decode cX7_init 159 = .ok (.putfield 76, 3) := by decide +kernel
theorem dX7_init_162 : decode cX7_init 162 = .ok (.aload_n 0, 1) := by decide +kernel
theorem dX7_init_163 : decode cX7_init 163 = .ok (.iconst 4, 1) := by decide +kernel
theorem dX7_init_164 : decode cX7_init 164 = .ok (.newarray .int, 2) := by decide +kernel
theorem dX7_init_166 : decode cX7_init 166 = .ok (.putfield 79, 3) := by decide +kernel
theorem dX7_init_169 : decode cX7_init 169 = .ok (.aload_n 0, 1) := by decide +kernel
theorem dX7_init_170 : decode cX7_init 170 = .ok (.bipush 16, 2) := by decide +kernel
theorem dX7_init_172 : decode cX7_init 172 = .ok (.newarray .long, 2) := by decide +kernel
theorem dX7_init_174 : decode cX7_init 174 = .ok (.putfield 82, 3) := by decide +kernel
theorem dX7_init_177 : decode cX7_init 177 = .ok (.aload_n 0, 1) := by decide +kernel
theorem dX7_init_178 : decode cX7_init 178 = .ok (.iconst 4, 1) := by decide +kernel
theorem dX7_init_179 : decode cX7_init 179 = .ok (.newarray .long, 2) := by decide +kernel
theorem dX7_init_181 : decode cX7_init 181 = .ok (.putfield 85, 3) := by decide +kernel
theorem dX7_init_184 : decode cX7_init 184 = .ok (.aload_n 0, 1) := by decide +kernel
theorem dX7_init_185 : decode cX7_init 185 = .ok (.bipush 16, 2) := by decide +kernel
theorem dX7_init_187 : decode cX7_init 187 = .ok (.newarray .long, 2) := by decide +kernel
theorem dX7_init_189 : decode cX7_init 189 = .ok (.putfield 88, 3) := by decide +kernel
theorem dX7_init_192 : decode cX7_init 192 = .ok (.aload_n 0, 1) := by decide +kernel
theorem dX7_init_193 : decode cX7_init 193 = .ok (.iconst 4, 1) := by decide +kernel
theorem dX7_init_194 : decode cX7_init 194 = .ok (.newarray .long, 2) := by decide +kernel
theorem dX7_init_196 : decode cX7_init 196 = .ok (.putfield 91, 3) := by decide +kernel
theorem dX7_init_199 : decode cX7_init 199 = .ok (.aload_n 0, 1) := by decide +kernel
theorem dX7_init_200 : decode cX7_init 200 = .ok (.iconst 5, 1) := by decide +kernel
theorem dX7_init_201 : decode cX7_init 201 = .ok (.newarray .boolean, 2) := by decide +kernel
theorem dX7_init_203 : decode cX7_init 203 = .ok (.putfield 94, 3) := by decide +kernel
theorem dX7_init_206 : decode cX7_init 206 = .ok (.aload_n 0, 1) := by decide +kernel
theorem dX7_init_207 : decode cX7_init 207 = .ok (.invokevirtual 97, 3) := by decide +kernel
theorem dX7_init_210 : decode cX7_init 210 = .ok (.return_, 1) := by decide +kernel
theorem dX7_in_0 : decode cX7_in 0 = .ok (.lload_n 0, 1) := by decide +kernel
theorem dX7_in_1 : decode cX7_in 1 = .ok (.lload_n 2, 1) := by decide +kernel
theorem dX7_in_2 : decode cX7_in 2 = .ok (.lcmp, 1) := by decide +kernel
theorem dX7_in_3 : decode cX7_in 3 = .ok (.ifCond .lt 14, 3) := by decide +kernel
theorem dX7_in_6 : decode cX7_in 6 = .ok (.lload_n 0, 1) := by decide +kernel
theorem dX7_in_7 : decode cX7_in 7 = .ok (.lload 4, 2) := by decide +kernel
theorem dX7_in_9 : decode cX7_in 9 = .ok (.lcmp, 1) := by decide +kernel
theorem dX7_in_10 : decode cX7_in 10 = .ok (.ifCond .gt 7, 3) := by decide +kernel
theorem dX7_in_13 : decode cX7_in 13 = .ok (.iconst 1, 1) := by decide +kernel
theorem dX7_in_14 : decode cX7_in 14 = .ok (.goto 4, 3) := by decide +kernel
theorem dX7_in_17 : decode cX7_in 17 = .ok (.iconst 0, 1) := by decide +kernel
theorem dX7_in_18 : decode cX7_in 18 = .ok (.ireturn, 1) := by decide +kernel
theorem dX7_forget_0 : decode cX7_forget 0 = .ok (.iconst 0, 1) := by decide +kernel
theorem dX7_forget_1 : decode cX7_forget 1 = .ok (.istore_n 1, 1) := by decide +kernel
theorem dX7_forget_2 : decode cX7_forget 2 = .ok (.iload_n 1, 1) := by decide +kernel
theorem dX7_forget_3 : decode cX7_forget 3 = .ok (.iconst 5, 1) := by decide +kernel
theorem dX7_forget_4 : decode cX7_forget 4 = .ok (.if_icmp .ge 30, 3) := by decide +kernel
theorem dX7_forget_7 : decode cX7_forget 7 = .ok (.aload_n 0, 1) := by decide +kernel
theorem dX7_forget_8 : decode cX7_forget 8 = .ok (.getfield 48, 3) := by decide +kernel
theorem dX7_forget_11 : decode cX7_forget 11 = .ok (.iload_n 1, 1) := by decide +kernel
theorem dX7_forget_12 : decode cX7_forget 12 = .ok (.iconst 0, 1) := by decide +kernel
theorem dX7_forget_13 : decode cX7_forget 13 = .ok (.iastore, 1) := by decide +kernel
theorem dX7_forget_14 : decode cX7_forget 14 = .ok (.aload_n 0, 1) := by decide +kernel
theorem dX7_forget_15 : decode cX7_forget 15 = .ok (.getfield 51, 3) := by decide +kernel
theorem dX7_forget_18 : decode cX7_forget 18 = .ok (.iload_n 1, 1) := by decide +kernel
theorem dX7_forget_19 : decode cX7_forget 19 = .ok (.iconst 1, 1) := by decide +kernel
theorem dX7_forget_20 : decode cX7_forget 20 = .ok (.iastore, 1) := by decide +kernel
theorem dX7_forget_21 : decode cX7_forget 21 = .ok (.aload_n 0, 1) := by decide +kernel
theorem dX7_forget_22 : decode cX7_forget 22 = .ok (.getfield 23, 3) := by decide +kernel
theorem dX7_forget_25 : decode cX7_forget 25 = .ok (.iload_n 1, 1) := by decide +kernel
theorem dX7_forget_26 : decode cX7_forget 26 = .ok (.iconst 0, 1) := by decide +kernel
theorem dX7_forget_27 : decode cX7_forget 27 = .ok (.bastore, 1) := by decide +kernel
theorem dX7_forget_28 : decode cX7_forget 28 = .ok (.iinc 1 1, 3) := by decide +kernel
theorem dX7_forget_31 : decode cX7_forget 31 = .ok (.goto (-29), 3) := by decide +kernel
theorem dX7_forget_34 : decode cX7_forget 34 = .ok (.iconst 0, 1) := by decide +kernel
theorem dX7_forget_35 : decode cX7_forget 35 = .ok (.istore_n 1, 1) := by decide +kernel
theorem dX7_forget_36 : decode cX7_forget 36 = .ok (.iload_n 1, 1) := by decide +kernel
theorem dX7_forget_37 : decode cX7_forget 37 = .ok (.iconst 4, 1) := by decide +kernel
theorem dX7_forget_38 : decode cX7_forget 38 = .ok (.if_icmp .ge 30, 3) := by decide +kernel
theorem dX7_forget_41 : decode cX7_forget 41 = .ok (.aload_n 0, 1) := by decide +kernel
theorem dX7_forget_42 : decode cX7_forget 42 = .ok (.getfield 42, 3) := by decide +kernel
theorem dX7_forget_45 : decode cX7_forget 45 = .ok (.iload_n 1, 1) := by decide +kernel
theorem dX7_forget_46 : decode cX7_forget 46 = .ok (.iconst 0, 1) := by decide +kernel
theorem dX7_forget_47 : decode cX7_forget 47 = .ok (.iastore, 1) := by decide +kernel
theorem dX7_forget_48 : decode cX7_forget 48 = .ok (.aload_n 0, 1) := by decide +kernel
theorem dX7_forget_49 : decode cX7_forget 49 = .ok (.getfield 45, 3) := by decide +kernel
theorem dX7_forget_52 : decode cX7_forget 52 = .ok (.iload_n 1, 1) := by decide +kernel
theorem dX7_forget_53 : decode cX7_forget 53 = .ok (.iconst 1, 1) := by decide +kernel
theorem dX7_forget_54 : decode cX7_forget 54 = .ok (.iastore, 1) := by decide +kernel
theorem dX7_forget_55 : decode cX7_forget 55 = .ok (.aload_n 0, 1) := by decide +kernel
theorem dX7_forget_56 : decode cX7_forget 56 = .ok (.getfield 36, 3) := by decide +kernel
theorem dX7_forget_59 : decode cX7_forget 59 = .ok (.iload_n 1, 1) := by decide +kernel
theorem dX7_forget_60 : decode cX7_forget 60 = .ok (.iconst 0, 1) := by decide +kernel
theorem dX7_forget_61 : decode cX7_forget 61 = .ok (.bastore, 1) := by decide +kernel
theorem dX7_forget_62 : decode cX7_forget 62 = .ok (.iinc 1 1, 3) := by decide +kernel
theorem dX7_forget_65 : decode cX7_forget 65 = .ok (.goto (-29), 3) := by decide +kernel
theorem dX7_forget_68 : decode cX7_forget 68 = .ok (.return_, 1) := by decide +kernel
theorem dX7_type_0 : decode cX7_type 0 = .ok (.iload_n 3, 1) := by decide +kernel
theorem dX7_type_1 : decode cX7_type 1 = .ok (.i2l, 1) := by decide +kernel
theorem dX7_type_2 : decode cX7_type 2 = .ok (.lconst 1, 1) := by decide +kernel
theorem dX7_type_3 : decode cX7_type 3 = .ok (.ldc2_w 100, 3) := by decide +kernel
theorem dX7_type_6 : decode cX7_type 6 = .ok (.invokestatic 102, 3) := by decide +kernel
theorem dX7_type_9 : decode cX7_type 9 = .ok (.ifCond .ne 5, 3) := by decide +kernel
theorem dX7_type_12 : decode cX7_type 12 = .ok (.iconst (-1), 1) := by decide +kernel
theorem dX7_type_13 : decode cX7_type 13 = .ok (.ireturn, 1) := by decide +kernel
theorem dX7_type_14 : decode cX7_type 14 = .ok (.aload_n 0, 1) := by decide +kernel
theorem dX7_type_15 : decode cX7_type 15 = .ok (.getfield 106, 3) := by decide +kernel
theorem dX7_type_18 : decode cX7_type 18 = .ok (.iload_n 3, 1) := by decide +kernel
theorem dX7_type_19 : decode cX7_type 19 = .ok (.iadd, 1) := by decide +kernel
theorem dX7_type_20 : decode cX7_type 20 = .ok (.sipush 300, 3) := by decide +kernel
theorem dX7_type_23 : decode cX7_type 23 = .ok (.if_icmp .le 6, 3) := by decide +kernel
theorem dX7_type_26 : decode cX7_type 26 = .ok (.bipush (-3), 2) := by decide +kernel
theorem dX7_type_28 : decode cX7_type 28 = .ok (.ireturn, 1) := by decide +kernel
theorem dX7_type_29 : decode cX7_type 29 = .ok (.iload_n 3, 1) := by decide +kernel
theorem dX7_type_30 : decode cX7_type 30 = .ok (.iconst 1, 1) := by decide +kernel
theorem dX7_type_31 : decode cX7_type 31 = .ok (.isub, 1) := by decide +kernel
theorem dX7_type_32 : decode cX7_type 32 = .ok (.istore 4, 2) := by decide +kernel
theorem dX7_type_34 : decode cX7_type 34 = .ok (.iload 4, 2) := by decide +kernel
theorem dX7_type_36 : decode cX7_type 36 = .ok (.ifCond .lt 41, 3) := by decide +kernel
theorem dX7_type_39 : decode cX7_type 39 = .ok (.aload_n 0, 1) := by decide +kernel
theorem dX7_type_40 : decode cX7_type 40 = .ok (.getfield 7, 3) := by decide +kernel
theorem dX7_type_43 : decode cX7_type 43 = .ok (.aload_n 0, 1) := by decide +kernel
theorem dX7_type_44 : decode cX7_type 44 = .ok (.getfield 106, 3) := by decide +kernel
theorem dX7_type_47 : decode cX7_type 47 = .ok (.lload_n 1, 1) := by decide +kernel
theorem dX7_type_48 : decode cX7_type 48 = .ok (.bipush 8, 2) := by decide +kernel
theorem dX7_type_50 : decode cX7_type 50 = .ok (.iload 4, 2) := by decide +kernel
theorem dX7_type_52 : decode cX7_type 52 = .ok (.imul, 1) := by decide +kernel
theorem dX7_type_53 : decode cX7_type 53 = .ok (.lshr, 1) := by decide +kernel
theorem dX7_type_54 : decode cX7_type 54 = .ok (.ldc2_w 110, 3) := by decide +kernel
theorem dX7_type_57 : decode cX7_type 57 = .ok (.land, 1) := by decide +kernel
theorem dX7_type_58 : decode cX7_type 58 = .ok (.l2i, 1) := by decide +kernel
theorem dX7_type_59 : decode cX7_type 59 = .ok (.i2b, 1) := by decide +kernel
theorem dX7_type_60 : decode cX7_type 60 = .ok (.bastore, 1) := by decide +kernel
theorem dX7_type_61 : decode cX7_type 61 = .ok (.aload_n 0, 1) := by decide +kernel
theorem dX7_type_62 : decode cX7_type 62 = .ok (.dup, 1) := by decide +kernel
theorem dX7_type_63 : decode cX7_type 63 = .ok (.getfield 106, 3) := by decide +kernel
theorem dX7_type_66 : decode cX7_type 66 = .ok (.iconst 1, 1) := by decide +kernel
theorem dX7_type_67 : decode cX7_type 67 = .ok (.iadd, 1) := by decide +kernel
theorem dX7_type_68 : decode cX7_type 68 = .ok (.putfield 106, 3) := by decide +kernel
theorem dX7_type_71 : decode cX7_type 71 = .ok (.iinc 4 (-1), 3) := by decide +kernel
theorem dX7_type_74 : decode cX7_type 74 = .ok (.goto (-40), 3) := by decide +kernel
theorem dX7_type_77 : decode cX7_type 77 = .ok (.aload_n 0, 1) := by decide +kernel
theorem dX7_type_78 : decode cX7_type 78 = .ok (.getfield 106, 3) := by decide +kernel
theorem dX7_type_81 : decode cX7_type 81 = .ok (.ireturn, 1) := by decide +kernel
theorem dX7_clear_0 : decode cX7_clear 0 = .ok (.aload_n 0, 1) := by decide +kernel
theorem dX7_clear_1 : decode cX7_clear 1 = .ok (.getfield 106, 3) := by decide +kernel
theorem dX7_clear_4 : decode cX7_clear 4 = .ok (.istore_n 1, 1) := by decide +kernel
theorem dX7_clear_5 : decode cX7_clear 5 = .ok (.aload_n 0, 1) := by decide +kernel
theorem dX7_clear_6 : decode cX7_clear 6 = .ok (.iconst 0, 1) := by decide +kernel
theorem dX7_clear_7 : decode cX7_clear 7 = .ok (.putfield 106, 3) := by decide +kernel
theorem dX7_clear_10 : decode cX7_clear 10 = .ok (.iload_n 1, 1) := by decide +kernel
theorem dX7_clear_11 : decode cX7_clear 11 = .ok (.ireturn, 1) := by decide +kernel
theorem dX7_here_0 : decode cX7_here 0 = .ok (.aload_n 0, 1) := by decide +kernel
theorem dX7_here_1 : decode cX7_here 1 = .ok (.getfield 112, 3) := by decide +kernel
theorem dX7_here_4 : decode cX7_here 4 = .ok (.aload_n 0, 1) := by decide +kernel
theorem dX7_here_5 : decode cX7_here 5 = .ok (.getfield 106, 3) := by decide +kernel
theorem dX7_here_8 : decode cX7_here 8 = .ok (.if_icmp .ge 19, 3) := by decide +kernel
theorem dX7_here_11 : decode cX7_here 11 = .ok (.aload_n 0, 1) := by decide +kernel
theorem dX7_here_12 : decode cX7_here 12 = .ok (.getfield 7, 3) := by decide +kernel
theorem dX7_here_15 : decode cX7_here 15 = .ok (.aload_n 0, 1) := by decide +kernel
theorem dX7_here_16 : decode cX7_here 16 = .ok (.getfield 112, 3) := by decide +kernel
theorem dX7_here_19 : decode cX7_here 19 = .ok (.baload, 1) := by decide +kernel
theorem dX7_here_20 : decode cX7_here 20 = .ok (.sipush 255, 3) := by decide +kernel
theorem dX7_here_23 : decode cX7_here 23 = .ok (.iand, 1) := by decide +kernel
theorem dX7_here_24 : decode cX7_here 24 = .ok (.goto 4, 3) := by decide +kernel
theorem dX7_here_27 : decode cX7_here 27 = .ok (.iconst (-1), 1) := by decide +kernel
theorem dX7_here_28 : decode cX7_here 28 = .ok (.ireturn, 1) := by decide +kernel
theorem dX7_spelled_0 : decode cX7_spelled 0 = .ok (.iload_n 2, 1) := by decide +kernel
theorem dX7_spelled_1 : decode cX7_spelled 1 = .ok (.ifCond .ne 7, 3) := by decide +kernel
theorem dX7_spelled_4 : decode cX7_spelled 4 = .ok (.lload_n 0, 1) := by decide +kernel
theorem dX7_spelled_5 : decode cX7_spelled 5 = .ok (.goto 17, 3) := by decide +kernel
theorem dX7_spelled_8 : decode cX7_spelled 8 = .ok (.lload_n 0, 1) := by decide +kernel
theorem dX7_spelled_9 : decode cX7_spelled 9 = .ok (.ldc2_w 115, 3) := by decide +kernel
theorem dX7_spelled_12 : decode cX7_spelled 12 = .ok (.lmul, 1) := by decide +kernel
theorem dX7_spelled_13 : decode cX7_spelled 13 = .ok (.iload_n 2, 1) := by decide +kernel
theorem dX7_spelled_14 : decode cX7_spelled 14 = .ok (.i2l, 1) := by decide +kernel
theorem dX7_spelled_15 : decode cX7_spelled 15 = .ok (.ladd, 1) := by decide +kernel
theorem dX7_spelled_16 : decode cX7_spelled 16 = .ok (.ldc2_w 117, 3) := by decide +kernel
theorem dX7_spelled_19 : decode cX7_spelled 19 = .ok (.lsub, 1) := by decide +kernel
theorem dX7_spelled_20 : decode cX7_spelled 20 = .ok (.lconst 1, 1) := by decide +kernel
theorem dX7_spelled_21 : decode cX7_spelled 21 = .ok (.ladd, 1) := by decide +kernel
theorem dX7_spelled_22 : decode cX7_spelled 22 = .ok (.lreturn, 1) := by decide +kernel
theorem dX7_code_0 : decode cX7_code 0 = .ok (.lconst 0, 1) := by decide +kernel
theorem dX7_code_1 : decode cX7_code 1 = .ok (.iload_n 0, 1) := by decide +kernel
theorem dX7_code_2 : decode cX7_code 2 = .ok (.invokestatic 119, 3) := by decide +kernel
theorem dX7_code_5 : decode cX7_code 5 = .ok (.iload_n 1, 1) := by decide +kernel
theorem dX7_code_6 : decode cX7_code 6 = .ok (.invokestatic 119, 3) := by decide +kernel
theorem dX7_code_9 : decode cX7_code 9 = .ok (.iload_n 2, 1) := by decide +kernel
theorem dX7_code_10 : decode cX7_code 10 = .ok (.invokestatic 119, 3) := by decide +kernel
theorem dX7_code_13 : decode cX7_code 13 = .ok (.iload_n 3, 1) := by decide +kernel
theorem dX7_code_14 : decode cX7_code 14 = .ok (.invokestatic 119, 3) := by decide +kernel
theorem dX7_code_17 : decode cX7_code 17 = .ok (.iload 4, 2) := by decide +kernel
theorem dX7_code_19 : decode cX7_code 19 = .ok (.invokestatic 119, 3) := by decide +kernel
theorem dX7_code_22 : decode cX7_code 22 = .ok (.lreturn, 1) := by decide +kernel
theorem dX7_wordOf_0 : decode cX7_wordOf 0 = .ok (.lconst 0, 1) := by decide +kernel
theorem dX7_wordOf_1 : decode cX7_wordOf 1 = .ok (.lstore_n 3, 1) := by decide +kernel
theorem dX7_wordOf_2 : decode cX7_wordOf 2 = .ok (.iload_n 1, 1) := by decide +kernel
theorem dX7_wordOf_3 : decode cX7_wordOf 3 = .ok (.istore 5, 2) := by decide +kernel
theorem dX7_wordOf_5 : decode cX7_wordOf 5 = .ok (.iload 5, 2) := by decide +kernel
theorem dX7_wordOf_7 : decode cX7_wordOf 7 = .ok (.iload_n 2, 1) := by decide +kernel
theorem dX7_wordOf_8 : decode cX7_wordOf 8 = .ok (.if_icmp .ge 30, 3) := by decide +kernel
theorem dX7_wordOf_11 : decode cX7_wordOf 11 = .ok (.iload 5, 2) := by decide +kernel
theorem dX7_wordOf_13 : decode cX7_wordOf 13 = .ok (.iload_n 1, 1) := by decide +kernel
theorem dX7_wordOf_14 : decode cX7_wordOf 14 = .ok (.bipush 6, 2) := by decide +kernel
theorem dX7_wordOf_16 : decode cX7_wordOf 16 = .ok (.iadd, 1) := by decide +kernel
theorem dX7_wordOf_17 : decode cX7_wordOf 17 = .ok (.if_icmp .ge 21, 3) := by decide +kernel
theorem dX7_wordOf_20 : decode cX7_wordOf 20 = .ok (.lload_n 3, 1) := by decide +kernel
theorem dX7_wordOf_21 : decode cX7_wordOf 21 = .ok (.aload_n 0, 1) := by decide +kernel
theorem dX7_wordOf_22 : decode cX7_wordOf 22 = .ok (.getfield 7, 3) := by decide +kernel
theorem dX7_wordOf_25 : decode cX7_wordOf 25 = .ok (.iload 5, 2) := by decide +kernel
theorem dX7_wordOf_27 : decode cX7_wordOf 27 = .ok (.baload, 1) := by decide +kernel
theorem dX7_wordOf_28 : decode cX7_wordOf 28 = .ok (.invokestatic 119, 3) := by decide +kernel
theorem dX7_wordOf_31 : decode cX7_wordOf 31 = .ok (.lstore_n 3, 1) := by decide +kernel
theorem dX7_wordOf_32 : decode cX7_wordOf 32 = .ok (.iinc 5 1, 3) := by decide +kernel
theorem dX7_wordOf_35 : decode cX7_wordOf 35 = .ok (.goto (-30), 3) := by decide +kernel
theorem dX7_wordOf_38 : decode cX7_wordOf 38 = .ok (.bipush (-9), 2) := by decide +kernel
theorem dX7_wordOf_40 : decode cX7_wordOf 40 = .ok (.istore 5, 2) := by decide +kernel
theorem dX7_wordOf_42 : decode cX7_wordOf 42 = .ok (.lload_n 3, 1) := by decide +kernel
theorem dX7_wordOf_43 : decode cX7_wordOf 43 = .ok (.bipush 112, 2) := by decide +kernel
theorem dX7_wordOf_45 : decode cX7_wordOf 45 = .ok (.bipush 97, 2) := by decide +kernel
theorem dX7_wordOf_47 : decode cX7_wordOf 47 = .ok (.bipush 114, 2) := by decide +kernel
theorem dX7_wordOf_49 : decode cX7_wordOf 49 = .ok (.bipush 116, 2) := by decide +kernel
theorem dX7_wordOf_51 : decode cX7_wordOf 51 = .ok (.iconst 0, 1) := by decide +kernel
theorem dX7_wordOf_52 : decode cX7_wordOf 52 = .ok (.invokestatic 123, 3) := by decide +kernel
theorem dX7_wordOf_55 : decode cX7_wordOf 55 = .ok (.lcmp, 1) := by decide +kernel
theorem dX7_wordOf_56 : decode cX7_wordOf 56 = .ok (.ifCond .ne 7, 3) := by decide +kernel
theorem dX7_wordOf_59 : decode cX7_wordOf 59 = .ok (.iconst 0, 1) := by decide +kernel
theorem dX7_wordOf_60 : decode cX7_wordOf 60 = .ok (.goto 5, 3) := by decide +kernel
theorem dX7_wordOf_63 : decode cX7_wordOf 63 = .ok (.iload 5, 2) := by decide +kernel
theorem dX7_wordOf_65 : decode cX7_wordOf 65 = .ok (.istore 5, 2) := by decide +kernel
theorem dX7_wordOf_67 : decode cX7_wordOf 67 = .ok (.lload_n 3, 1) := by decide +kernel
theorem dX7_wordOf_68 : decode cX7_wordOf 68 = .ok (.bipush 119, 2) := by decide +kernel
theorem dX7_wordOf_70 : decode cX7_wordOf 70 = .ok (.bipush 104, 2) := by decide +kernel
theorem dX7_wordOf_72 : decode cX7_wordOf 72 = .ok (.bipush 111, 2) := by decide +kernel
theorem dX7_wordOf_74 : decode cX7_wordOf 74 = .ok (.bipush 108, 2) := by decide +kernel
theorem dX7_wordOf_76 : decode cX7_wordOf 76 = .ok (.bipush 101, 2) := by decide +kernel
theorem dX7_wordOf_78 : decode cX7_wordOf 78 = .ok (.invokestatic 123, 3) := by decide +kernel
theorem dX7_wordOf_81 : decode cX7_wordOf 81 = .ok (.lcmp, 1) := by decide +kernel
theorem dX7_wordOf_82 : decode cX7_wordOf 82 = .ok (.ifCond .ne 7, 3) := by decide +kernel
theorem dX7_wordOf_85 : decode cX7_wordOf 85 = .ok (.iconst 1, 1) := by decide +kernel
theorem dX7_wordOf_86 : decode cX7_wordOf 86 = .ok (.goto 5, 3) := by decide +kernel
theorem dX7_wordOf_89 : decode cX7_wordOf 89 = .ok (.iload 5, 2) := by decide +kernel
theorem dX7_wordOf_91 : decode cX7_wordOf 91 = .ok (.istore 5, 2) := by decide +kernel
theorem dX7_wordOf_93 : decode cX7_wordOf 93 = .ok (.lload_n 3, 1) := by decide +kernel
theorem dX7_wordOf_94 : decode cX7_wordOf 94 = .ok (.bipush 97, 2) := by decide +kernel
theorem dX7_wordOf_96 : decode cX7_wordOf 96 = .ok (.bipush 108, 2) := by decide +kernel
theorem dX7_wordOf_98 : decode cX7_wordOf 98 = .ok (.bipush 108, 2) := by decide +kernel
theorem dX7_wordOf_100 : decode cX7_wordOf 100 = .ok (.iconst 0, 1) := by decide +kernel
theorem dX7_wordOf_101 : decode cX7_wordOf 101 = .ok (.iconst 0, 1) := by decide +kernel
theorem dX7_wordOf_102 : decode cX7_wordOf 102 = .ok (.invokestatic 123, 3) := by decide +kernel
theorem dX7_wordOf_105 : decode cX7_wordOf 105 = .ok (.lcmp, 1) := by decide +kernel
theorem dX7_wordOf_106 : decode cX7_wordOf 106 = .ok (.ifCond .ne 7, 3) := by decide +kernel
theorem dX7_wordOf_109 : decode cX7_wordOf 109 = .ok (.iconst 2, 1) := by decide +kernel
theorem dX7_wordOf_110 : decode cX7_wordOf 110 = .ok (.goto 5, 3) := by decide +kernel
theorem dX7_wordOf_113 : decode cX7_wordOf 113 = .ok (.iload 5, 2) := by decide +kernel
theorem dX7_wordOf_115 : decode cX7_wordOf 115 = .ok (.istore 5, 2) := by decide +kernel
theorem dX7_wordOf_117 : decode cX7_wordOf 117 = .ok (.lload_n 3, 1) := by decide +kernel
theorem dX7_wordOf_118 : decode cX7_wordOf 118 = .ok (.bipush 103, 2) := by decide +kernel
theorem dX7_wordOf_120 : decode cX7_wordOf 120 = .ok (.bipush 97, 2) := by decide +kernel
theorem dX7_wordOf_122 : decode cX7_wordOf 122 = .ok (.bipush 116, 2) := by decide +kernel
theorem dX7_wordOf_124 : decode cX7_wordOf 124 = .ok (.bipush 101, 2) := by decide +kernel
theorem dX7_wordOf_126 : decode cX7_wordOf 126 = .ok (.iconst 0, 1) := by decide +kernel
theorem dX7_wordOf_127 : decode cX7_wordOf 127 = .ok (.invokestatic 123, 3) := by decide +kernel
theorem dX7_wordOf_130 : decode cX7_wordOf 130 = .ok (.lcmp, 1) := by decide +kernel
theorem dX7_wordOf_131 : decode cX7_wordOf 131 = .ok (.ifCond .ne 7, 3) := by decide +kernel
theorem dX7_wordOf_134 : decode cX7_wordOf 134 = .ok (.iconst 3, 1) := by decide +kernel
theorem dX7_wordOf_135 : decode cX7_wordOf 135 = .ok (.goto 5, 3) := by decide +kernel
theorem dX7_wordOf_138 : decode cX7_wordOf 138 = .ok (.iload 5, 2) := by decide +kernel
theorem dX7_wordOf_140 : decode cX7_wordOf 140 = .ok (.istore 5, 2) := by decide +kernel
theorem dX7_wordOf_142 : decode cX7_wordOf 142 = .ok (.lload_n 3, 1) := by decide +kernel
theorem dX7_wordOf_143 : decode cX7_wordOf 143 = .ok (.bipush 119, 2) := by decide +kernel
theorem dX7_wordOf_145 : decode cX7_wordOf 145 = .ok (.bipush 105, 2) := by decide +kernel
theorem dX7_wordOf_147 : decode cX7_wordOf 147 = .ok (.bipush 115, 2) := by decide +kernel
theorem dX7_wordOf_149 : decode cX7_wordOf 149 = .ok (.bipush 104, 2) := by decide +kernel
theorem dX7_wordOf_151 : decode cX7_wordOf 151 = .ok (.iconst 0, 1) := by decide +kernel
theorem dX7_wordOf_152 : decode cX7_wordOf 152 = .ok (.invokestatic 123, 3) := by decide +kernel
theorem dX7_wordOf_155 : decode cX7_wordOf 155 = .ok (.lcmp, 1) := by decide +kernel
theorem dX7_wordOf_156 : decode cX7_wordOf 156 = .ok (.ifCond .ne 7, 3) := by decide +kernel
theorem dX7_wordOf_159 : decode cX7_wordOf 159 = .ok (.iconst 4, 1) := by decide +kernel
theorem dX7_wordOf_160 : decode cX7_wordOf 160 = .ok (.goto 5, 3) := by decide +kernel
theorem dX7_wordOf_163 : decode cX7_wordOf 163 = .ok (.iload 5, 2) := by decide +kernel
theorem dX7_wordOf_165 : decode cX7_wordOf 165 = .ok (.istore 5, 2) := by decide +kernel
theorem dX7_wordOf_167 : decode cX7_wordOf 167 = .ok (.lload_n 3, 1) := by decide +kernel
theorem dX7_wordOf_168 : decode cX7_wordOf 168 = .ok (.bipush 109, 2) := by decide +kernel
theorem dX7_wordOf_170 : decode cX7_wordOf 170 = .ok (.bipush 111, 2) := by decide +kernel
theorem dX7_wordOf_172 : decode cX7_wordOf 172 = .ok (.bipush 115, 2) := by decide +kernel
theorem dX7_wordOf_174 : decode cX7_wordOf 174 = .ok (.bipush 116, 2) := by decide +kernel
theorem dX7_wordOf_176 : decode cX7_wordOf 176 = .ok (.iconst 0, 1) := by decide +kernel
theorem dX7_wordOf_177 : decode cX7_wordOf 177 = .ok (.invokestatic 123, 3) := by decide +kernel
theorem dX7_wordOf_180 : decode cX7_wordOf 180 = .ok (.lcmp, 1) := by decide +kernel
theorem dX7_wordOf_181 : decode cX7_wordOf 181 = .ok (.ifCond .ne 7, 3) := by decide +kernel
theorem dX7_wordOf_184 : decode cX7_wordOf 184 = .ok (.iconst 5, 1) := by decide +kernel
theorem dX7_wordOf_185 : decode cX7_wordOf 185 = .ok (.goto 5, 3) := by decide +kernel
theorem dX7_wordOf_188 : decode cX7_wordOf 188 = .ok (.iload 5, 2) := by decide +kernel
theorem dX7_wordOf_190 : decode cX7_wordOf 190 = .ok (.istore 5, 2) := by decide +kernel
theorem dX7_wordOf_192 : decode cX7_wordOf 192 = .ok (.lload_n 3, 1) := by decide +kernel
theorem dX7_wordOf_193 : decode cX7_wordOf 193 = .ok (.bipush 108, 2) := by decide +kernel
theorem dX7_wordOf_195 : decode cX7_wordOf 195 = .ok (.bipush 101, 2) := by decide +kernel
theorem dX7_wordOf_197 : decode cX7_wordOf 197 = .ok (.bipush 97, 2) := by decide +kernel
theorem dX7_wordOf_199 : decode cX7_wordOf 199 = .ok (.bipush 115, 2) := by decide +kernel
theorem dX7_wordOf_201 : decode cX7_wordOf 201 = .ok (.bipush 116, 2) := by decide +kernel
theorem dX7_wordOf_203 : decode cX7_wordOf 203 = .ok (.invokestatic 123, 3) := by decide +kernel
theorem dX7_wordOf_206 : decode cX7_wordOf 206 = .ok (.lcmp, 1) := by decide +kernel
theorem dX7_wordOf_207 : decode cX7_wordOf 207 = .ok (.ifCond .ne 8, 3) := by decide +kernel
theorem dX7_wordOf_210 : decode cX7_wordOf 210 = .ok (.bipush 6, 2) := by decide +kernel
theorem dX7_wordOf_212 : decode cX7_wordOf 212 = .ok (.goto 5, 3) := by decide +kernel
theorem dX7_wordOf_215 : decode cX7_wordOf 215 = .ok (.iload 5, 2) := by decide +kernel
theorem dX7_wordOf_217 : decode cX7_wordOf 217 = .ok (.istore 5, 2) := by decide +kernel
theorem dX7_wordOf_219 : decode cX7_wordOf 219 = .ok (.iload_n 2, 1) := by decide +kernel
theorem dX7_wordOf_220 : decode cX7_wordOf 220 = .ok (.iload_n 1, 1) := by decide +kernel
theorem dX7_wordOf_221 : decode cX7_wordOf 221 = .ok (.isub, 1) := by decide +kernel
theorem dX7_wordOf_222 : decode cX7_wordOf 222 = .ok (.iconst 5, 1) := by decide +kernel
theorem dX7_wordOf_223 : decode cX7_wordOf 223 = .ok (.if_icmp .le 8, 3) := by decide +kernel
theorem dX7_wordOf_226 : decode cX7_wordOf 226 = .ok (.bipush (-9), 2) := by decide +kernel
theorem dX7_wordOf_228 : decode cX7_wordOf 228 = .ok (.goto 5, 3) := by decide +kernel
theorem dX7_wordOf_231 : decode cX7_wordOf 231 = .ok (.iload 5, 2) := by decide +kernel
theorem dX7_wordOf_233 : decode cX7_wordOf 233 = .ok (.ireturn, 1) := by decide +kernel
theorem dX7_next_0 : decode cX7_next 0 = .ok (.aload_n 0, 1) := by decide +kernel
theorem dX7_next_1 : decode cX7_next 1 = .ok (.invokevirtual 127, 3) := by decide +kernel
theorem dX7_next_4 : decode cX7_next 4 = .ok (.bipush 32, 2) := by decide +kernel
theorem dX7_next_6 : decode cX7_next 6 = .ok (.if_icmp .ne 16, 3) := by decide +kernel
theorem dX7_next_9 : decode cX7_next 9 = .ok (.aload_n 0, 1) := by decide +kernel
theorem dX7_next_10 : decode cX7_next 10 = .ok (.dup, 1) := by decide +kernel
theorem dX7_next_11 : decode cX7_next 11 = .ok (.getfield 112, 3) := by decide +kernel
theorem dX7_next_14 : decode cX7_next 14 = .ok (.iconst 1, 1) := by decide +kernel
theorem dX7_next_15 : decode cX7_next 15 = .ok (.iadd, 1) := by decide +kernel
theorem dX7_next_16 : decode cX7_next 16 = .ok (.putfield 112, 3) := by decide +kernel
theorem dX7_next_19 : decode cX7_next 19 = .ok (.goto (-19), 3) := by decide +kernel
theorem dX7_next_22 : decode cX7_next 22 = .ok (.aload_n 0, 1) := by decide +kernel
theorem dX7_next_23 : decode cX7_next 23 = .ok (.aload_n 0, 1) := by decide +kernel
theorem dX7_next_24 : decode cX7_next 24 = .ok (.getfield 112, 3) := by decide +kernel
theorem dX7_next_27 : decode cX7_next 27 = .ok (.putfield 131, 3) := by decide +kernel
theorem dX7_next_30 : decode cX7_next 30 = .ok (.aload_n 0, 1) := by decide +kernel
theorem dX7_next_31 : decode cX7_next 31 = .ok (.iconst 0, 1) := by decide +kernel
theorem dX7_next_32 : decode cX7_next 32 = .ok (.putfield 134, 3) := by decide +kernel
theorem dX7_next_35 : decode cX7_next 35 = .ok (.aload_n 0, 1) := by decide +kernel
theorem dX7_next_36 : decode cX7_next 36 = .ok (.invokevirtual 127, 3) := by decide +kernel
theorem dX7_next_39 : decode cX7_next 39 = .ok (.istore_n 1, 1) := by decide +kernel
theorem dX7_next_40 : decode cX7_next 40 = .ok (.iload_n 1, 1) := by decide +kernel
theorem dX7_next_41 : decode cX7_next 41 = .ok (.ifCond .ge 11, 3) := by decide +kernel
theorem dX7_next_44 : decode cX7_next 44 = .ok (.aload_n 0, 1) := by decide +kernel
theorem dX7_next_45 : decode cX7_next 45 = .ok (.iconst 0, 1) := by decide +kernel
theorem dX7_next_46 : decode cX7_next 46 = .ok (.putfield 137, 3) := by decide +kernel
theorem dX7_next_49 : decode cX7_next 49 = .ok (.goto 256, 3) := by decide +kernel
theorem dX7_next_52 : decode cX7_next 52 = .ok (.iload_n 1, 1) := by decide +kernel
theorem dX7_next_53 : decode cX7_next 53 = .ok (.i2l, 1) := by decide +kernel
theorem dX7_next_54 : decode cX7_next 54 = .ok (.ldc2_w 117, 3) := by decide +kernel
theorem dX7_next_57 : decode cX7_next 57 = .ok (.ldc2_w 140, 3) := by decide +kernel
theorem dX7_next_60 : decode cX7_next 60 = .ok (.invokestatic 102, 3) := by decide +kernel
theorem dX7_next_63 : decode cX7_next 63 = .ok (.ifCond .eq 70, 3) := by decide +kernel
theorem dX7_next_66 : decode cX7_next 66 = .ok (.aload_n 0, 1) := by decide +kernel
theorem dX7_next_67 : decode cX7_next 67 = .ok (.invokevirtual 127, 3) := by decide +kernel
theorem dX7_next_70 : decode cX7_next 70 = .ok (.i2l, 1) := by decide +kernel
theorem dX7_next_71 : decode cX7_next 71 = .ok (.ldc2_w 117, 3) := by decide +kernel
theorem dX7_next_74 : decode cX7_next 74 = .ok (.ldc2_w 140, 3) := by decide +kernel
theorem dX7_next_77 : decode cX7_next 77 = .ok (.invokestatic 102, 3) := by decide +kernel
theorem dX7_next_80 : decode cX7_next 80 = .ok (.ifCond .eq 16, 3) := by decide +kernel
theorem dX7_next_83 : decode cX7_next 83 = .ok (.aload_n 0, 1) := by decide +kernel
theorem dX7_next_84 : decode cX7_next 84 = .ok (.dup, 1) := by decide +kernel
theorem dX7_next_85 : decode cX7_next 85 = .ok (.getfield 112, 3) := by decide +kernel
theorem dX7_next_88 : decode cX7_next 88 = .ok (.iconst 1, 1) := by decide +kernel
theorem dX7_next_89 : decode cX7_next 89 = .ok (.iadd, 1) := by decide +kernel
theorem dX7_next_90 : decode cX7_next 90 = .ok (.putfield 112, 3) := by decide +kernel
theorem dX7_next_93 : decode cX7_next 93 = .ok (.goto (-27), 3) := by decide +kernel
theorem dX7_next_96 : decode cX7_next 96 = .ok (.aload_n 0, 1) := by decide +kernel
theorem dX7_next_97 : decode cX7_next 97 = .ok (.aload_n 0, 1) := by decide +kernel
theorem dX7_next_98 : decode cX7_next 98 = .ok (.aload_n 0, 1) := by decide +kernel
theorem dX7_next_99 : decode cX7_next 99 = .ok (.getfield 131, 3) := by decide +kernel
theorem dX7_next_102 : decode cX7_next 102 = .ok (.aload_n 0, 1) := by decide +kernel
theorem dX7_next_103 : decode cX7_next 103 = .ok (.getfield 112, 3) := by decide +kernel
theorem dX7_next_106 : decode cX7_next 106 = .ok (.invokevirtual 142, 3) := by decide +kernel
theorem dX7_next_109 : decode cX7_next 109 = .ok (.putfield 134, 3) := by decide +kernel
theorem dX7_next_112 : decode cX7_next 112 = .ok (.aload_n 0, 1) := by decide +kernel
theorem dX7_next_113 : decode cX7_next 113 = .ok (.aload_n 0, 1) := by decide +kernel
theorem dX7_next_114 : decode cX7_next 114 = .ok (.getfield 134, 3) := by decide +kernel
theorem dX7_next_117 : decode cX7_next 117 = .ok (.bipush (-9), 2) := by decide +kernel
theorem dX7_next_119 : decode cX7_next 119 = .ok (.if_icmp .ne 7, 3) := by decide +kernel
theorem dX7_next_122 : decode cX7_next 122 = .ok (.iconst 5, 1) := by decide +kernel
theorem dX7_next_123 : decode cX7_next 123 = .ok (.goto 4, 3) := by decide +kernel
theorem dX7_next_126 : decode cX7_next 126 = .ok (.iconst 1, 1) := by decide +kernel
theorem dX7_next_127 : decode cX7_next 127 = .ok (.putfield 137, 3) := by decide +kernel
theorem dX7_next_130 : decode cX7_next 130 = .ok (.goto 175, 3) := by decide +kernel
theorem dX7_next_133 : decode cX7_next 133 = .ok (.iload_n 1, 1) := by decide +kernel
theorem dX7_next_134 : decode cX7_next 134 = .ok (.i2l, 1) := by decide +kernel
theorem dX7_next_135 : decode cX7_next 135 = .ok (.ldc2_w 146, 3) := by decide +kernel
theorem dX7_next_138 : decode cX7_next 138 = .ok (.ldc2_w 148, 3) := by decide +kernel
theorem dX7_next_141 : decode cX7_next 141 = .ok (.invokestatic 102, 3) := by decide +kernel
theorem dX7_next_144 : decode cX7_next 144 = .ok (.ifCond .eq 110, 3) := by decide +kernel
theorem dX7_next_147 : decode cX7_next 147 = .ok (.aload_n 0, 1) := by decide +kernel
theorem dX7_next_148 : decode cX7_next 148 = .ok (.invokevirtual 127, 3) := by decide +kernel
theorem dX7_next_151 : decode cX7_next 151 = .ok (.i2l, 1) := by decide +kernel
theorem dX7_next_152 : decode cX7_next 152 = .ok (.ldc2_w 146, 3) := by decide +kernel
theorem dX7_next_155 : decode cX7_next 155 = .ok (.ldc2_w 148, 3) := by decide +kernel
theorem dX7_next_158 : decode cX7_next 158 = .ok (.invokestatic 102, 3) := by decide +kernel
theorem dX7_next_161 : decode cX7_next 161 = .ok (.ifCond .eq 52, 3) := by decide +kernel
theorem dX7_next_164 : decode cX7_next 164 = .ok (.aload_n 0, 1) := by decide +kernel
theorem dX7_next_165 : decode cX7_next 165 = .ok (.aload_n 0, 1) := by decide +kernel
theorem dX7_next_166 : decode cX7_next 166 = .ok (.getfield 134, 3) := by decide +kernel
theorem dX7_next_169 : decode cX7_next 169 = .ok (.sipush 999, 3) := by decide +kernel
theorem dX7_next_172 : decode cX7_next 172 = .ok (.if_icmp .le 10, 3) := by decide +kernel
theorem dX7_next_175 : decode cX7_next 175 = .ok (.aload_n 0, 1) := by decide +kernel
theorem dX7_next_176 : decode cX7_next 176 = .ok (.getfield 134, 3) := by decide +kernel
theorem dX7_next_179 : decode cX7_next 179 = .ok (.goto 18, 3) := by decide +kernel
theorem dX7_next_182 : decode cX7_next 182 = .ok (.bipush 10, 2) := by decide +kernel
theorem dX7_next_184 : decode cX7_next 184 = .ok (.aload_n 0, 1) := by decide +kernel
theorem dX7_next_185 : decode cX7_next 185 = .ok (.getfield 134, 3) := by decide +kernel
theorem dX7_next_188 : decode cX7_next 188 = .ok (.imul, 1) := by decide +kernel
theorem dX7_next_189 : decode cX7_next 189 = .ok (.aload_n 0, 1) := by decide +kernel
theorem dX7_next_190 : decode cX7_next 190 = .ok (.invokevirtual 127, 3) := by decide +kernel
theorem dX7_next_193 : decode cX7_next 193 = .ok (.iadd, 1) := by decide +kernel
theorem dX7_next_194 : decode cX7_next 194 = .ok (.bipush 48, 2) := by decide +kernel
theorem dX7_next_196 : decode cX7_next 196 = .ok (.isub, 1) := by decide +kernel
theorem dX7_next_197 : decode cX7_next 197 = .ok (.putfield 134, 3) := by decide +kernel
theorem dX7_next_200 : decode cX7_next 200 = .ok (.aload_n 0, 1) := by decide +kernel
theorem dX7_next_201 : decode cX7_next 201 = .ok (.dup, 1) := by decide +kernel
theorem dX7_next_202 : decode cX7_next 202 = .ok (.getfield 112, 3) := by decide +kernel
theorem dX7_next_205 : decode cX7_next 205 = .ok (.iconst 1, 1) := by decide +kernel
theorem dX7_next_206 : decode cX7_next 206 = .ok (.iadd, 1) := by decide +kernel
theorem dX7_next_207 : decode cX7_next 207 = .ok (.putfield 112, 3) := by decide +kernel
theorem dX7_next_210 : decode cX7_next 210 = .ok (.goto (-63), 3) := by decide +kernel
theorem dX7_next_213 : decode cX7_next 213 = .ok (.aload_n 0, 1) := by decide +kernel
theorem dX7_next_214 : decode cX7_next 214 = .ok (.aload_n 0, 1) := by decide +kernel
theorem dX7_next_215 : decode cX7_next 215 = .ok (.getfield 134, 3) := by decide +kernel
theorem dX7_next_218 : decode cX7_next 218 = .ok (.sipush 999, 3) := by decide +kernel
theorem dX7_next_221 : decode cX7_next 221 = .ok (.if_icmp .gt 22, 3) := by decide +kernel
theorem dX7_next_224 : decode cX7_next 224 = .ok (.iload_n 1, 1) := by decide +kernel
theorem dX7_next_225 : decode cX7_next 225 = .ok (.bipush 48, 2) := by decide +kernel
theorem dX7_next_227 : decode cX7_next 227 = .ok (.if_icmp .ne 20, 3) := by decide +kernel
theorem dX7_next_230 : decode cX7_next 230 = .ok (.aload_n 0, 1) := by decide +kernel
theorem dX7_next_231 : decode cX7_next 231 = .ok (.getfield 112, 3) := by decide +kernel
theorem dX7_next_234 : decode cX7_next 234 = .ok (.aload_n 0, 1) := by decide +kernel
theorem dX7_next_235 : decode cX7_next 235 = .ok (.getfield 131, 3) := by decide +kernel
theorem dX7_next_238 : decode cX7_next 238 = .ok (.isub, 1) := by decide +kernel
theorem dX7_next_239 : decode cX7_next 239 = .ok (.iconst 1, 1) := by decide +kernel
theorem dX7_next_240 : decode cX7_next 240 = .ok (.if_icmp .le 7, 3) := by decide +kernel
theorem dX7_next_243 : decode cX7_next 243 = .ok (.iconst 5, 1) := by decide +kernel
theorem dX7_next_244 : decode cX7_next 244 = .ok (.goto 4, 3) := by decide +kernel
theorem dX7_next_247 : decode cX7_next 247 = .ok (.iconst 3, 1) := by decide +kernel
theorem dX7_next_248 : decode cX7_next 248 = .ok (.putfield 137, 3) := by decide +kernel
theorem dX7_next_251 : decode cX7_next 251 = .ok (.goto 54, 3) := by decide +kernel
theorem dX7_next_254 : decode cX7_next 254 = .ok (.aload_n 0, 1) := by decide +kernel
theorem dX7_next_255 : decode cX7_next 255 = .ok (.dup, 1) := by decide +kernel
theorem dX7_next_256 : decode cX7_next 256 = .ok (.getfield 112, 3) := by decide +kernel
theorem dX7_next_259 : decode cX7_next 259 = .ok (.iconst 1, 1) := by decide +kernel
theorem dX7_next_260 : decode cX7_next 260 = .ok (.iadd, 1) := by decide +kernel
theorem dX7_next_261 : decode cX7_next 261 = .ok (.putfield 112, 3) := by decide +kernel
theorem dX7_next_264 : decode cX7_next 264 = .ok (.aload_n 0, 1) := by decide +kernel
theorem dX7_next_265 : decode cX7_next 265 = .ok (.iload_n 1, 1) := by decide +kernel
theorem dX7_next_266 : decode cX7_next 266 = .ok (.bipush 65, 2) := by decide +kernel
theorem dX7_next_268 : decode cX7_next 268 = .ok (.isub, 1) := by decide +kernel
theorem dX7_next_269 : decode cX7_next 269 = .ok (.putfield 134, 3) := by decide +kernel
theorem dX7_next_272 : decode cX7_next 272 = .ok (.aload_n 0, 1) := by decide +kernel
theorem dX7_next_273 : decode cX7_next 273 = .ok (.iload_n 1, 1) := by decide +kernel
theorem dX7_next_274 : decode cX7_next 274 = .ok (.i2l, 1) := by decide +kernel
theorem dX7_next_275 : decode cX7_next 275 = .ok (.ldc2_w 150, 3) := by decide +kernel
theorem dX7_next_278 : decode cX7_next 278 = .ok (.ldc2_w 152, 3) := by decide +kernel
theorem dX7_next_281 : decode cX7_next 281 = .ok (.invokestatic 102, 3) := by decide +kernel
theorem dX7_next_284 : decode cX7_next 284 = .ok (.ifCond .eq 7, 3) := by decide +kernel
theorem dX7_next_287 : decode cX7_next 287 = .ok (.iconst 2, 1) := by decide +kernel
theorem dX7_next_288 : decode cX7_next 288 = .ok (.goto 14, 3) := by decide +kernel
theorem dX7_next_291 : decode cX7_next 291 = .ok (.iload_n 1, 1) := by decide +kernel
theorem dX7_next_292 : decode cX7_next 292 = .ok (.bipush 59, 2) := by decide +kernel
theorem dX7_next_294 : decode cX7_next 294 = .ok (.if_icmp .ne 7, 3) := by decide +kernel
theorem dX7_next_297 : decode cX7_next 297 = .ok (.iconst 4, 1) := by decide +kernel
theorem dX7_next_298 : decode cX7_next 298 = .ok (.goto 4, 3) := by decide +kernel
theorem dX7_next_301 : decode cX7_next 301 = .ok (.iconst 5, 1) := by decide +kernel
theorem dX7_next_302 : decode cX7_next 302 = .ok (.putfield 137, 3) := by decide +kernel
theorem dX7_next_305 : decode cX7_next 305 = .ok (.return_, 1) := by decide +kernel
theorem dX7_due_0 : decode cX7_due 0 = .ok (.aload_n 0, 1) := by decide +kernel
theorem dX7_due_1 : decode cX7_due 1 = .ok (.getfield 134, 3) := by decide +kernel
theorem dX7_due_4 : decode cX7_due 4 = .ok (.istore_n 2, 1) := by decide +kernel
theorem dX7_due_5 : decode cX7_due 5 = .ok (.aload_n 0, 1) := by decide +kernel
theorem dX7_due_6 : decode cX7_due 6 = .ok (.getfield 154, 3) := by decide +kernel
theorem dX7_due_9 : decode cX7_due 9 = .ok (.bipush (-9), 2) := by decide +kernel
theorem dX7_due_11 : decode cX7_due 11 = .ok (.if_icmp .ne 22, 3) := by decide +kernel
theorem dX7_due_14 : decode cX7_due 14 = .ok (.iload_n 1, 1) := by decide +kernel
theorem dX7_due_15 : decode cX7_due 15 = .ok (.ifCond .eq 10, 3) := by decide +kernel
theorem dX7_due_18 : decode cX7_due 18 = .ok (.aload_n 0, 1) := by decide +kernel
theorem dX7_due_19 : decode cX7_due 19 = .ok (.invokevirtual 157, 3) := by decide +kernel
theorem dX7_due_22 : decode cX7_due 22 = .ok (.goto 11, 3) := by decide +kernel
theorem dX7_due_25 : decode cX7_due 25 = .ok (.aload_n 0, 1) := by decide +kernel
theorem dX7_due_26 : decode cX7_due 26 = .ok (.aload_n 0, 1) := by decide +kernel
theorem dX7_due_27 : decode cX7_due 27 = .ok (.getfield 131, 3) := by decide +kernel
theorem dX7_due_30 : decode cX7_due 30 = .ok (.putfield 154, 3) := by decide +kernel
theorem dX7_due_33 : decode cX7_due 33 = .ok (.iload_n 2, 1) := by decide +kernel
theorem dX7_due_34 : decode cX7_due 34 = .ok (.ireturn, 1) := by decide +kernel
theorem dX7_number_0 : decode cX7_number 0 = .ok (.aload_n 0, 1) := by decide +kernel
theorem dX7_number_1 : decode cX7_number 1 = .ok (.aload_n 0, 1) := by decide +kernel
theorem dX7_number_2 : decode cX7_number 2 = .ok (.getfield 137, 3) := by decide +kernel
theorem dX7_number_5 : decode cX7_number 5 = .ok (.iconst 3, 1) := by decide +kernel
theorem dX7_number_6 : decode cX7_number 6 = .ok (.if_icmp .ne 22, 3) := by decide +kernel
theorem dX7_number_9 : decode cX7_number 9 = .ok (.aload_n 0, 1) := by decide +kernel
theorem dX7_number_10 : decode cX7_number 10 = .ok (.getfield 134, 3) := by decide +kernel
theorem dX7_number_13 : decode cX7_number 13 = .ok (.i2l, 1) := by decide +kernel
theorem dX7_number_14 : decode cX7_number 14 = .ok (.iload_n 1, 1) := by decide +kernel
theorem dX7_number_15 : decode cX7_number 15 = .ok (.i2l, 1) := by decide +kernel
theorem dX7_number_16 : decode cX7_number 16 = .ok (.iload_n 2, 1) := by decide +kernel
theorem dX7_number_17 : decode cX7_number 17 = .ok (.i2l, 1) := by decide +kernel
theorem dX7_number_18 : decode cX7_number 18 = .ok (.invokestatic 102, 3) := by decide +kernel
theorem dX7_number_21 : decode cX7_number 21 = .ok (.ifCond .eq 7, 3) := by decide +kernel
theorem dX7_number_24 : decode cX7_number 24 = .ok (.iconst 1, 1) := by decide +kernel
theorem dX7_number_25 : decode cX7_number 25 = .ok (.goto 4, 3) := by decide +kernel
theorem dX7_number_28 : decode cX7_number 28 = .ok (.iconst 0, 1) := by decide +kernel
theorem dX7_number_29 : decode cX7_number 29 = .ok (.invokevirtual 160, 3) := by decide +kernel
theorem dX7_number_32 : decode cX7_number 32 = .ok (.ireturn, 1) := by decide +kernel
theorem dX7_readGate_0 : decode cX7_readGate 0 = .ok (.aload_n 0, 1) := by decide +kernel
theorem dX7_readGate_1 : decode cX7_readGate 1 = .ok (.iconst 1, 1) := by decide +kernel
theorem dX7_readGate_2 : decode cX7_readGate 2 = .ok (.invokevirtual 160, 3) := by decide +kernel
theorem dX7_readGate_5 : decode cX7_readGate 5 = .ok (.pop, 1) := by decide +kernel
theorem dX7_readGate_6 : decode cX7_readGate 6 = .ok (.aload_n 0, 1) := by decide +kernel
theorem dX7_readGate_7 : decode cX7_readGate 7 = .ok (.aload_n 0, 1) := by decide +kernel
theorem dX7_readGate_8 : decode cX7_readGate 8 = .ok (.getfield 137, 3) := by decide +kernel
theorem dX7_readGate_11 : decode cX7_readGate 11 = .ok (.iconst 2, 1) := by decide +kernel
theorem dX7_readGate_12 : decode cX7_readGate 12 = .ok (.if_icmp .ne 40, 3) := by decide +kernel
theorem dX7_readGate_15 : decode cX7_readGate 15 = .ok (.aload_n 0, 1) := by decide +kernel
theorem dX7_readGate_16 : decode cX7_readGate 16 = .ok (.getfield 54, 3) := by decide +kernel
theorem dX7_readGate_19 : decode cX7_readGate 19 = .ok (.aload_n 0, 1) := by decide +kernel
theorem dX7_readGate_20 : decode cX7_readGate 20 = .ok (.getfield 134, 3) := by decide +kernel
theorem dX7_readGate_23 : decode cX7_readGate 23 = .ok (.ifCond .lt 11, 3) := by decide +kernel
theorem dX7_readGate_26 : decode cX7_readGate 26 = .ok (.aload_n 0, 1) := by decide +kernel
theorem dX7_readGate_27 : decode cX7_readGate 27 = .ok (.getfield 134, 3) := by decide +kernel
theorem dX7_readGate_30 : decode cX7_readGate 30 = .ok (.iconst 4, 1) := by decide +kernel
theorem dX7_readGate_31 : decode cX7_readGate 31 = .ok (.if_icmp .le 7, 3) := by decide +kernel
theorem dX7_readGate_34 : decode cX7_readGate 34 = .ok (.iconst 0, 1) := by decide +kernel
theorem dX7_readGate_35 : decode cX7_readGate 35 = .ok (.goto 7, 3) := by decide +kernel
theorem dX7_readGate_38 : decode cX7_readGate 38 = .ok (.aload_n 0, 1) := by decide +kernel
theorem dX7_readGate_39 : decode cX7_readGate 39 = .ok (.getfield 134, 3) := by decide +kernel
theorem dX7_readGate_42 : decode cX7_readGate 42 = .ok (.iaload, 1) := by decide +kernel
theorem dX7_readGate_43 : decode cX7_readGate 43 = .ok (.bipush (-9), 2) := by decide +kernel
theorem dX7_readGate_45 : decode cX7_readGate 45 = .ok (.if_icmp .ne 7, 3) := by decide +kernel
theorem dX7_readGate_48 : decode cX7_readGate 48 = .ok (.iconst 1, 1) := by decide +kernel
theorem dX7_readGate_49 : decode cX7_readGate 49 = .ok (.goto 4, 3) := by decide +kernel
theorem dX7_readGate_52 : decode cX7_readGate 52 = .ok (.iconst 0, 1) := by decide +kernel
theorem dX7_readGate_53 : decode cX7_readGate 53 = .ok (.invokevirtual 160, 3) := by decide +kernel
theorem dX7_readGate_56 : decode cX7_readGate 56 = .ok (.istore_n 1, 1) := by decide +kernel
theorem dX7_readGate_57 : decode cX7_readGate 57 = .ok (.aload_n 0, 1) := by decide +kernel
theorem dX7_readGate_58 : decode cX7_readGate 58 = .ok (.aload_n 0, 1) := by decide +kernel
theorem dX7_readGate_59 : decode cX7_readGate 59 = .ok (.getfield 137, 3) := by decide +kernel
theorem dX7_readGate_62 : decode cX7_readGate 62 = .ok (.iconst 1, 1) := by decide +kernel
theorem dX7_readGate_63 : decode cX7_readGate 63 = .ok (.if_icmp .ne 24, 3) := by decide +kernel
theorem dX7_readGate_66 : decode cX7_readGate 66 = .ok (.aload_n 0, 1) := by decide +kernel
theorem dX7_readGate_67 : decode cX7_readGate 67 = .ok (.getfield 134, 3) := by decide +kernel
theorem dX7_readGate_70 : decode cX7_readGate 70 = .ok (.i2l, 1) := by decide +kernel
theorem dX7_readGate_71 : decode cX7_readGate 71 = .ok (.ldc2_w 164, 3) := by decide +kernel
theorem dX7_readGate_74 : decode cX7_readGate 74 = .ok (.ldc2_w 166, 3) := by decide +kernel
theorem dX7_readGate_77 : decode cX7_readGate 77 = .ok (.invokestatic 102, 3) := by decide +kernel
theorem dX7_readGate_80 : decode cX7_readGate 80 = .ok (.ifCond .eq 7, 3) := by decide +kernel
theorem dX7_readGate_83 : decode cX7_readGate 83 = .ok (.iconst 1, 1) := by decide +kernel
theorem dX7_readGate_84 : decode cX7_readGate 84 = .ok (.goto 4, 3) := by decide +kernel
theorem dX7_readGate_87 : decode cX7_readGate 87 = .ok (.iconst 0, 1) := by decide +kernel
theorem dX7_readGate_88 : decode cX7_readGate 88 = .ok (.invokevirtual 160, 3) := by decide +kernel
theorem dX7_readGate_91 : decode cX7_readGate 91 = .ok (.istore_n 2, 1) := by decide +kernel
theorem dX7_readGate_92 : decode cX7_readGate 92 = .ok (.aload_n 0, 1) := by decide +kernel
theorem dX7_readGate_93 : decode cX7_readGate 93 = .ok (.iconst 0, 1) := by decide +kernel
theorem dX7_readGate_94 : decode cX7_readGate 94 = .ok (.bipush 99, 2) := by decide +kernel
theorem dX7_readGate_96 : decode cX7_readGate 96 = .ok (.invokevirtual 168, 3) := by decide +kernel
theorem dX7_readGate_99 : decode cX7_readGate 99 = .ok (.istore_n 3, 1) := by decide +kernel
theorem dX7_readGate_100 : decode cX7_readGate 100 = .ok (.aload_n 0, 1) := by decide +kernel
theorem dX7_readGate_101 : decode cX7_readGate 101 = .ok (.aload_n 0, 1) := by decide +kernel
theorem dX7_readGate_102 : decode cX7_readGate 102 = .ok (.getfield 137, 3) := by decide +kernel
theorem dX7_readGate_105 : decode cX7_readGate 105 = .ok (.iconst 4, 1) := by decide +kernel
theorem dX7_readGate_106 : decode cX7_readGate 106 = .ok (.if_icmp .ne 7, 3) := by decide +kernel
theorem dX7_readGate_109 : decode cX7_readGate 109 = .ok (.iconst 1, 1) := by decide +kernel
theorem dX7_readGate_110 : decode cX7_readGate 110 = .ok (.goto 4, 3) := by decide +kernel
theorem dX7_readGate_113 : decode cX7_readGate 113 = .ok (.iconst 0, 1) := by decide +kernel
theorem dX7_readGate_114 : decode cX7_readGate 114 = .ok (.invokevirtual 160, 3) := by decide +kernel
theorem dX7_readGate_117 : decode cX7_readGate 117 = .ok (.pop, 1) := by decide +kernel
theorem dX7_readGate_118 : decode cX7_readGate 118 = .ok (.aload_n 0, 1) := by decide +kernel
theorem dX7_readGate_119 : decode cX7_readGate 119 = .ok (.getfield 154, 3) := by decide +kernel
theorem dX7_readGate_122 : decode cX7_readGate 122 = .ok (.bipush (-9), 2) := by decide +kernel
theorem dX7_readGate_124 : decode cX7_readGate 124 = .ok (.if_icmp .ne 27, 3) := by decide +kernel
theorem dX7_readGate_127 : decode cX7_readGate 127 = .ok (.aload_n 0, 1) := by decide +kernel
theorem dX7_readGate_128 : decode cX7_readGate 128 = .ok (.getfield 54, 3) := by decide +kernel
theorem dX7_readGate_131 : decode cX7_readGate 131 = .ok (.iload_n 1, 1) := by decide +kernel
theorem dX7_readGate_132 : decode cX7_readGate 132 = .ok (.iload_n 2, 1) := by decide +kernel
theorem dX7_readGate_133 : decode cX7_readGate 133 = .ok (.bipush 6, 2) := by decide +kernel
theorem dX7_readGate_135 : decode cX7_readGate 135 = .ok (.if_icmp .ne 7, 3) := by decide +kernel
theorem dX7_readGate_138 : decode cX7_readGate 138 = .ok (.iconst 1, 1) := by decide +kernel
theorem dX7_readGate_139 : decode cX7_readGate 139 = .ok (.goto 4, 3) := by decide +kernel
theorem dX7_readGate_142 : decode cX7_readGate 142 = .ok (.iconst 0, 1) := by decide +kernel
theorem dX7_readGate_143 : decode cX7_readGate 143 = .ok (.iastore, 1) := by decide +kernel
theorem dX7_readGate_144 : decode cX7_readGate 144 = .ok (.aload_n 0, 1) := by decide +kernel
theorem dX7_readGate_145 : decode cX7_readGate 145 = .ok (.getfield 57, 3) := by decide +kernel
theorem dX7_readGate_148 : decode cX7_readGate 148 = .ok (.iload_n 1, 1) := by decide +kernel
theorem dX7_readGate_149 : decode cX7_readGate 149 = .ok (.iload_n 3, 1) := by decide +kernel
theorem dX7_readGate_150 : decode cX7_readGate 150 = .ok (.iastore, 1) := by decide +kernel
theorem dX7_readGate_151 : decode cX7_readGate 151 = .ok (.return_, 1) := by decide +kernel
theorem dX7_readWish_0 : decode cX7_readWish 0 = .ok (.aload_n 0, 1) := by decide +kernel
theorem dX7_readWish_1 : decode cX7_readWish 1 = .ok (.aload_n 0, 1) := by decide +kernel
theorem dX7_readWish_2 : decode cX7_readWish 2 = .ok (.getfield 171, 3) := by decide +kernel
theorem dX7_readWish_5 : decode cX7_readWish 5 = .ok (.iconst 4, 1) := by decide +kernel
theorem dX7_readWish_6 : decode cX7_readWish 6 = .ok (.if_icmp .ge 7, 3) := by decide +kernel
theorem dX7_readWish_9 : decode cX7_readWish 9 = .ok (.iconst 1, 1) := by decide +kernel
theorem dX7_readWish_10 : decode cX7_readWish 10 = .ok (.goto 4, 3) := by decide +kernel
theorem dX7_readWish_13 : decode cX7_readWish 13 = .ok (.iconst 0, 1) := by decide +kernel
theorem dX7_readWish_14 : decode cX7_readWish 14 = .ok (.invokevirtual 160, 3) := by decide +kernel
theorem dX7_readWish_17 : decode cX7_readWish 17 = .ok (.pop, 1) := by decide +kernel
theorem dX7_readWish_18 : decode cX7_readWish 18 = .ok (.aload_n 0, 1) := by decide +kernel
theorem dX7_readWish_19 : decode cX7_readWish 19 = .ok (.getfield 154, 3) := by decide +kernel
theorem dX7_readWish_22 : decode cX7_readWish 22 = .ok (.bipush (-9), 2) := by decide +kernel
theorem dX7_readWish_24 : decode cX7_readWish 24 = .ok (.if_icmp .eq 4, 3) := by decide +kernel
theorem dX7_readWish_27 : decode cX7_readWish 27 = .ok (.return_, 1) := by decide +kernel
theorem dX7_readWish_28 : decode cX7_readWish 28 = .ok (.aload_n 0, 1) := by decide +kernel
theorem dX7_readWish_29 : decode cX7_readWish 29 = .ok (.getfield 171, 3) := by decide +kernel
theorem dX7_readWish_32 : decode cX7_readWish 32 = .ok (.istore_n 1, 1) := by decide +kernel
theorem dX7_readWish_33 : decode cX7_readWish 33 = .ok (.aload_n 0, 1) := by decide +kernel
theorem dX7_readWish_34 : decode cX7_readWish 34 = .ok (.getfield 60, 3) := by decide +kernel
theorem dX7_readWish_37 : decode cX7_readWish 37 = .ok (.iload_n 1, 1) := by decide +kernel
theorem dX7_readWish_38 : decode cX7_readWish 38 = .ok (.aload_n 0, 1) := by decide +kernel
theorem dX7_readWish_39 : decode cX7_readWish 39 = .ok (.iconst 0, 1) := by decide +kernel
theorem dX7_readWish_40 : decode cX7_readWish 40 = .ok (.bipush 99, 2) := by decide +kernel
theorem dX7_readWish_42 : decode cX7_readWish 42 = .ok (.invokevirtual 168, 3) := by decide +kernel
theorem dX7_readWish_45 : decode cX7_readWish 45 = .ok (.iastore, 1) := by decide +kernel
theorem dX7_readWish_46 : decode cX7_readWish 46 = .ok (.aload_n 0, 1) := by decide +kernel
theorem dX7_readWish_47 : decode cX7_readWish 47 = .ok (.getfield 63, 3) := by decide +kernel
theorem dX7_readWish_50 : decode cX7_readWish 50 = .ok (.iload_n 1, 1) := by decide +kernel
theorem dX7_readWish_51 : decode cX7_readWish 51 = .ok (.aload_n 0, 1) := by decide +kernel
theorem dX7_readWish_52 : decode cX7_readWish 52 = .ok (.aload_n 0, 1) := by decide +kernel
theorem dX7_readWish_53 : decode cX7_readWish 53 = .ok (.getfield 137, 3) := by decide +kernel
theorem dX7_readWish_56 : decode cX7_readWish 56 = .ok (.iconst 1, 1) := by decide +kernel
theorem dX7_readWish_57 : decode cX7_readWish 57 = .ok (.if_icmp .ne 22, 3) := by decide +kernel
theorem dX7_readWish_60 : decode cX7_readWish 60 = .ok (.aload_n 0, 1) := by decide +kernel
theorem dX7_readWish_61 : decode cX7_readWish 61 = .ok (.getfield 134, 3) := by decide +kernel
theorem dX7_readWish_64 : decode cX7_readWish 64 = .ok (.i2l, 1) := by decide +kernel
theorem dX7_readWish_65 : decode cX7_readWish 65 = .ok (.lconst 0, 1) := by decide +kernel
theorem dX7_readWish_66 : decode cX7_readWish 66 = .ok (.ldc2_w 174, 3) := by decide +kernel
theorem dX7_readWish_69 : decode cX7_readWish 69 = .ok (.invokestatic 102, 3) := by decide +kernel
theorem dX7_readWish_72 : decode cX7_readWish 72 = .ok (.ifCond .eq 7, 3) := by decide +kernel
theorem dX7_readWish_75 : decode cX7_readWish 75 = .ok (.iconst 1, 1) := by decide +kernel
theorem dX7_readWish_76 : decode cX7_readWish 76 = .ok (.goto 4, 3) := by decide +kernel
theorem dX7_readWish_79 : decode cX7_readWish 79 = .ok (.iconst 0, 1) := by decide +kernel
theorem dX7_readWish_80 : decode cX7_readWish 80 = .ok (.invokevirtual 160, 3) := by decide +kernel
theorem dX7_readWish_83 : decode cX7_readWish 83 = .ok (.iastore, 1) := by decide +kernel
theorem dX7_readWish_84 : decode cX7_readWish 84 = .ok (.aload_n 0, 1) := by decide +kernel
theorem dX7_readWish_85 : decode cX7_readWish 85 = .ok (.getfield 66, 3) := by decide +kernel
theorem dX7_readWish_88 : decode cX7_readWish 88 = .ok (.iload_n 1, 1) := by decide +kernel
theorem dX7_readWish_89 : decode cX7_readWish 89 = .ok (.aload_n 0, 1) := by decide +kernel
theorem dX7_readWish_90 : decode cX7_readWish 90 = .ok (.iconst 1, 1) := by decide +kernel
theorem dX7_readWish_91 : decode cX7_readWish 91 = .ok (.bipush 12, 2) := by decide +kernel
theorem dX7_readWish_93 : decode cX7_readWish 93 = .ok (.invokevirtual 168, 3) := by decide +kernel
theorem dX7_readWish_96 : decode cX7_readWish 96 = .ok (.iastore, 1) := by decide +kernel
theorem dX7_readWish_97 : decode cX7_readWish 97 = .ok (.iconst 0, 1) := by decide +kernel
theorem dX7_readWish_98 : decode cX7_readWish 98 = .ok (.istore_n 2, 1) := by decide +kernel
theorem dX7_readWish_99 : decode cX7_readWish 99 = .ok (.iload_n 2, 1) := by decide +kernel
theorem dX7_readWish_100 : decode cX7_readWish 100 = .ok (.iconst 5, 1) := by decide +kernel
theorem dX7_readWish_101 : decode cX7_readWish 101 = .ok (.if_icmp .ge 20, 3) := by decide +kernel
theorem dX7_readWish_104 : decode cX7_readWish 104 = .ok (.aload_n 0, 1) := by decide +kernel
theorem dX7_readWish_105 : decode cX7_readWish 105 = .ok (.getfield 69, 3) := by decide +kernel
theorem dX7_readWish_108 : decode cX7_readWish 108 = .ok (.iconst 5, 1) := by decide +kernel
theorem dX7_readWish_109 : decode cX7_readWish 109 = .ok (.iload_n 1, 1) := by decide +kernel
theorem dX7_readWish_110 : decode cX7_readWish 110 = .ok (.imul, 1) := by decide +kernel
theorem dX7_readWish_111 : decode cX7_readWish 111 = .ok (.iload_n 2, 1) := by decide +kernel
theorem dX7_readWish_112 : decode cX7_readWish 112 = .ok (.iadd, 1) := by decide +kernel
theorem dX7_readWish_113 : decode cX7_readWish 113 = .ok (.iconst 0, 1) := by decide +kernel
theorem dX7_readWish_114 : decode cX7_readWish 114 = .ok (.iastore, 1) := by decide +kernel
theorem dX7_readWish_115 : decode cX7_readWish 115 = .ok (.iinc 2 1, 3) := by decide +kernel
theorem dX7_readWish_118 : decode cX7_readWish 118 = .ok (.goto (-19), 3) := by decide +kernel
theorem dX7_readWish_121 : decode cX7_readWish 121 = .ok (.aload_n 0, 1) := by decide +kernel
theorem dX7_readWish_122 : decode cX7_readWish 122 = .ok (.getfield 154, 3) := by decide +kernel
theorem dX7_readWish_125 : decode cX7_readWish 125 = .ok (.bipush (-9), 2) := by decide +kernel
theorem dX7_readWish_127 : decode cX7_readWish 127 = .ok (.if_icmp .ne 90, 3) := by decide +kernel
theorem dX7_readWish_130 : decode cX7_readWish 130 = .ok (.aload_n 0, 1) := by decide +kernel
theorem dX7_readWish_131 : decode cX7_readWish 131 = .ok (.getfield 137, 3) := by decide +kernel
theorem dX7_readWish_134 : decode cX7_readWish 134 = .ok (.iconst 4, 1) := by decide +kernel
theorem dX7_readWish_135 : decode cX7_readWish 135 = .ok (.if_icmp .eq 82, 3) := by decide +kernel
theorem dX7_readWish_138 : decode cX7_readWish 138 = .ok (.aload_n 0, 1) := by decide +kernel
theorem dX7_readWish_139 : decode cX7_readWish 139 = .ok (.aload_n 0, 1) := by decide +kernel
theorem dX7_readWish_140 : decode cX7_readWish 140 = .ok (.getfield 137, 3) := by decide +kernel
theorem dX7_readWish_143 : decode cX7_readWish 143 = .ok (.iconst 2, 1) := by decide +kernel
theorem dX7_readWish_144 : decode cX7_readWish 144 = .ok (.if_icmp .ne 37, 3) := by decide +kernel
theorem dX7_readWish_147 : decode cX7_readWish 147 = .ok (.aload_n 0, 1) := by decide +kernel
theorem dX7_readWish_148 : decode cX7_readWish 148 = .ok (.getfield 54, 3) := by decide +kernel
theorem dX7_readWish_151 : decode cX7_readWish 151 = .ok (.aload_n 0, 1) := by decide +kernel
theorem dX7_readWish_152 : decode cX7_readWish 152 = .ok (.getfield 134, 3) := by decide +kernel
theorem dX7_readWish_155 : decode cX7_readWish 155 = .ok (.iaload, 1) := by decide +kernel
theorem dX7_readWish_156 : decode cX7_readWish 156 = .ok (.bipush (-9), 2) := by decide +kernel
theorem dX7_readWish_158 : decode cX7_readWish 158 = .ok (.if_icmp .eq 23, 3) := by decide +kernel
theorem dX7_readWish_161 : decode cX7_readWish 161 = .ok (.aload_n 0, 1) := by decide +kernel
theorem dX7_readWish_162 : decode cX7_readWish 162 = .ok (.getfield 69, 3) := by decide +kernel
theorem dX7_readWish_165 : decode cX7_readWish 165 = .ok (.iconst 5, 1) := by decide +kernel
theorem dX7_readWish_166 : decode cX7_readWish 166 = .ok (.iload_n 1, 1) := by decide +kernel
theorem dX7_readWish_167 : decode cX7_readWish 167 = .ok (.imul, 1) := by decide +kernel
theorem dX7_readWish_168 : decode cX7_readWish 168 = .ok (.aload_n 0, 1) := by decide +kernel
theorem dX7_readWish_169 : decode cX7_readWish 169 = .ok (.getfield 134, 3) := by decide +kernel
theorem dX7_readWish_172 : decode cX7_readWish 172 = .ok (.iadd, 1) := by decide +kernel
theorem dX7_readWish_173 : decode cX7_readWish 173 = .ok (.iaload, 1) := by decide +kernel
theorem dX7_readWish_174 : decode cX7_readWish 174 = .ok (.ifCond .ne 7, 3) := by decide +kernel
theorem dX7_readWish_177 : decode cX7_readWish 177 = .ok (.iconst 1, 1) := by decide +kernel
theorem dX7_readWish_178 : decode cX7_readWish 178 = .ok (.goto 4, 3) := by decide +kernel
theorem dX7_readWish_181 : decode cX7_readWish 181 = .ok (.iconst 0, 1) := by decide +kernel
theorem dX7_readWish_182 : decode cX7_readWish 182 = .ok (.invokevirtual 160, 3) := by decide +kernel
theorem dX7_readWish_185 : decode cX7_readWish 185 = .ok (.istore_n 2, 1) := by decide +kernel
theorem dX7_readWish_186 : decode cX7_readWish 186 = .ok (.aload_n 0, 1) := by decide +kernel
theorem dX7_readWish_187 : decode cX7_readWish 187 = .ok (.iconst 1, 1) := by decide +kernel
theorem dX7_readWish_188 : decode cX7_readWish 188 = .ok (.bipush 9, 2) := by decide +kernel
theorem dX7_readWish_190 : decode cX7_readWish 190 = .ok (.invokevirtual 168, 3) := by decide +kernel
theorem dX7_readWish_193 : decode cX7_readWish 193 = .ok (.istore_n 3, 1) := by decide +kernel
theorem dX7_readWish_194 : decode cX7_readWish 194 = .ok (.aload_n 0, 1) := by decide +kernel
theorem dX7_readWish_195 : decode cX7_readWish 195 = .ok (.getfield 154, 3) := by decide +kernel
theorem dX7_readWish_198 : decode cX7_readWish 198 = .ok (.bipush (-9), 2) := by decide +kernel
theorem dX7_readWish_200 : decode cX7_readWish 200 = .ok (.if_icmp .ne 14, 3) := by decide +kernel
theorem dX7_readWish_203 : decode cX7_readWish 203 = .ok (.aload_n 0, 1) := by decide +kernel
theorem dX7_readWish_204 : decode cX7_readWish 204 = .ok (.getfield 69, 3) := by decide +kernel
theorem dX7_readWish_207 : decode cX7_readWish 207 = .ok (.iconst 5, 1) := by decide +kernel
theorem dX7_readWish_208 : decode cX7_readWish 208 = .ok (.iload_n 1, 1) := by decide +kernel
theorem dX7_readWish_209 : decode cX7_readWish 209 = .ok (.imul, 1) := by decide +kernel
theorem dX7_readWish_210 : decode cX7_readWish 210 = .ok (.iload_n 2, 1) := by decide +kernel
theorem dX7_readWish_211 : decode cX7_readWish 211 = .ok (.iadd, 1) := by decide +kernel
theorem dX7_readWish_212 : decode cX7_readWish 212 = .ok (.iload_n 3, 1) := by decide +kernel
theorem dX7_readWish_213 : decode cX7_readWish 213 = .ok (.iastore, 1) := by decide +kernel
theorem dX7_readWish_214 : decode cX7_readWish 214 = .ok (.goto (-93), 3) := by decide +kernel
theorem dX7_readWish_217 : decode cX7_readWish 217 = .ok (.aload_n 0, 1) := by decide +kernel
theorem dX7_readWish_218 : decode cX7_readWish 218 = .ok (.aload_n 0, 1) := by decide +kernel
theorem dX7_readWish_219 : decode cX7_readWish 219 = .ok (.getfield 137, 3) := by decide +kernel
theorem dX7_readWish_222 : decode cX7_readWish 222 = .ok (.iconst 4, 1) := by decide +kernel
theorem dX7_readWish_223 : decode cX7_readWish 223 = .ok (.if_icmp .ne 7, 3) := by decide +kernel
theorem dX7_readWish_226 : decode cX7_readWish 226 = .ok (.iconst 1, 1) := by decide +kernel
theorem dX7_readWish_227 : decode cX7_readWish 227 = .ok (.goto 4, 3) := by decide +kernel
theorem dX7_readWish_230 : decode cX7_readWish 230 = .ok (.iconst 0, 1) := by decide +kernel
theorem dX7_readWish_231 : decode cX7_readWish 231 = .ok (.invokevirtual 160, 3) := by decide +kernel
theorem dX7_readWish_234 : decode cX7_readWish 234 = .ok (.pop, 1) := by decide +kernel
theorem dX7_readWish_235 : decode cX7_readWish 235 = .ok (.aload_n 0, 1) := by decide +kernel
theorem dX7_readWish_236 : decode cX7_readWish 236 = .ok (.dup, 1) := by decide +kernel
theorem dX7_readWish_237 : decode cX7_readWish 237 = .ok (.getfield 171, 3) := by decide +kernel
theorem dX7_readWish_240 : decode cX7_readWish 240 = .ok (.iconst 1, 1) := by decide +kernel
theorem dX7_readWish_241 : decode cX7_readWish 241 = .ok (.iadd, 1) := by decide +kernel
theorem dX7_readWish_242 : decode cX7_readWish 242 = .ok (.putfield 171, 3) := by decide +kernel
theorem dX7_readWish_245 : decode cX7_readWish 245 = .ok (.return_, 1) := by decide +kernel
theorem dX7_table_0 : decode cX7_table 0 = .ok (.aload_n 0, 1) := by decide +kernel
theorem dX7_table_1 : decode cX7_table 1 = .ok (.iconst 0, 1) := by decide +kernel
theorem dX7_table_2 : decode cX7_table 2 = .ok (.putfield 112, 3) := by decide +kernel
theorem dX7_table_5 : decode cX7_table 5 = .ok (.aload_n 0, 1) := by decide +kernel
theorem dX7_table_6 : decode cX7_table 6 = .ok (.bipush (-9), 2) := by decide +kernel
theorem dX7_table_8 : decode cX7_table 8 = .ok (.putfield 154, 3) := by decide +kernel
theorem dX7_table_11 : decode cX7_table 11 = .ok (.aload_n 0, 1) := by decide +kernel
theorem dX7_table_12 : decode cX7_table 12 = .ok (.iconst 0, 1) := by decide +kernel
theorem dX7_table_13 : decode cX7_table 13 = .ok (.putfield 171, 3) := by decide +kernel
theorem dX7_table_16 : decode cX7_table 16 = .ok (.iconst 0, 1) := by decide +kernel
theorem dX7_table_17 : decode cX7_table 17 = .ok (.istore_n 1, 1) := by decide +kernel
theorem dX7_table_18 : decode cX7_table 18 = .ok (.iconst 0, 1) := by decide +kernel
theorem dX7_table_19 : decode cX7_table 19 = .ok (.istore_n 2, 1) := by decide +kernel
theorem dX7_table_20 : decode cX7_table 20 = .ok (.iload_n 2, 1) := by decide +kernel
theorem dX7_table_21 : decode cX7_table 21 = .ok (.iconst 5, 1) := by decide +kernel
theorem dX7_table_22 : decode cX7_table 22 = .ok (.if_icmp .ge 17, 3) := by decide +kernel
theorem dX7_table_25 : decode cX7_table 25 = .ok (.aload_n 0, 1) := by decide +kernel
theorem dX7_table_26 : decode cX7_table 26 = .ok (.getfield 54, 3) := by decide +kernel
theorem dX7_table_29 : decode cX7_table 29 = .ok (.iload_n 2, 1) := by decide +kernel
theorem dX7_table_30 : decode cX7_table 30 = .ok (.bipush (-9), 2) := by decide +kernel
theorem dX7_table_32 : decode cX7_table 32 = .ok (.iastore, 1) := by decide +kernel
theorem dX7_table_33 : decode cX7_table 33 = .ok (.iinc 2 1, 3) := by decide +kernel
theorem dX7_table_36 : decode cX7_table 36 = .ok (.goto (-16), 3) := by decide +kernel
theorem dX7_table_39 : decode cX7_table 39 = .ok (.aload_n 0, 1) := by decide +kernel
theorem dX7_table_40 : decode cX7_table 40 = .ok (.invokevirtual 157, 3) := by decide +kernel
theorem dX7_table_43 : decode cX7_table 43 = .ok (.aload_n 0, 1) := by decide +kernel
theorem dX7_table_44 : decode cX7_table 44 = .ok (.getfield 154, 3) := by decide +kernel
theorem dX7_table_47 : decode cX7_table 47 = .ok (.bipush (-9), 2) := by decide +kernel
theorem dX7_table_49 : decode cX7_table 49 = .ok (.if_icmp .ne 70, 3) := by decide +kernel
theorem dX7_table_52 : decode cX7_table 52 = .ok (.aload_n 0, 1) := by decide +kernel
theorem dX7_table_53 : decode cX7_table 53 = .ok (.getfield 137, 3) := by decide +kernel
theorem dX7_table_56 : decode cX7_table 56 = .ok (.ifCond .eq 63, 3) := by decide +kernel
theorem dX7_table_59 : decode cX7_table 59 = .ok (.aload_n 0, 1) := by decide +kernel
theorem dX7_table_60 : decode cX7_table 60 = .ok (.getfield 137, 3) := by decide +kernel
theorem dX7_table_63 : decode cX7_table 63 = .ok (.iconst 1, 1) := by decide +kernel
theorem dX7_table_64 : decode cX7_table 64 = .ok (.if_icmp .ne 18, 3) := by decide +kernel
theorem dX7_table_67 : decode cX7_table 67 = .ok (.aload_n 0, 1) := by decide +kernel
theorem dX7_table_68 : decode cX7_table 68 = .ok (.getfield 134, 3) := by decide +kernel
theorem dX7_table_71 : decode cX7_table 71 = .ok (.iconst 3, 1) := by decide +kernel
theorem dX7_table_72 : decode cX7_table 72 = .ok (.if_icmp .ne 10, 3) := by decide +kernel
theorem dX7_table_75 : decode cX7_table 75 = .ok (.aload_n 0, 1) := by decide +kernel
theorem dX7_table_76 : decode cX7_table 76 = .ok (.invokevirtual 176, 3) := by decide +kernel
theorem dX7_table_79 : decode cX7_table 79 = .ok (.goto 34, 3) := by decide +kernel
theorem dX7_table_82 : decode cX7_table 82 = .ok (.aload_n 0, 1) := by decide +kernel
theorem dX7_table_83 : decode cX7_table 83 = .ok (.getfield 137, 3) := by decide +kernel
theorem dX7_table_86 : decode cX7_table 86 = .ok (.iconst 1, 1) := by decide +kernel
theorem dX7_table_87 : decode cX7_table 87 = .ok (.if_icmp .ne 18, 3) := by decide +kernel
theorem dX7_table_90 : decode cX7_table 90 = .ok (.aload_n 0, 1) := by decide +kernel
theorem dX7_table_91 : decode cX7_table 91 = .ok (.getfield 134, 3) := by decide +kernel
theorem dX7_table_94 : decode cX7_table 94 = .ok (.iconst 4, 1) := by decide +kernel
theorem dX7_table_95 : decode cX7_table 95 = .ok (.if_icmp .ne 10, 3) := by decide +kernel
theorem dX7_table_98 : decode cX7_table 98 = .ok (.aload_n 0, 1) := by decide +kernel
theorem dX7_table_99 : decode cX7_table 99 = .ok (.invokevirtual 179, 3) := by decide +kernel
theorem dX7_table_102 : decode cX7_table 102 = .ok (.goto 11, 3) := by decide +kernel
theorem dX7_table_105 : decode cX7_table 105 = .ok (.aload_n 0, 1) := by decide +kernel
theorem dX7_table_106 : decode cX7_table 106 = .ok (.aload_n 0, 1) := by decide +kernel
theorem dX7_table_107 : decode cX7_table 107 = .ok (.getfield 131, 3) := by decide +kernel
theorem dX7_table_110 : decode cX7_table 110 = .ok (.putfield 154, 3) := by decide +kernel
theorem dX7_table_113 : decode cX7_table 113 = .ok (.iinc 1 1, 3) := by decide +kernel
theorem dX7_table_116 : decode cX7_table 116 = .ok (.goto (-73), 3) := by decide +kernel
theorem dX7_table_119 : decode cX7_table 119 = .ok (.aload_n 0, 1) := by decide +kernel
theorem dX7_table_120 : decode cX7_table 120 = .ok (.getfield 154, 3) := by decide +kernel
theorem dX7_table_123 : decode cX7_table 123 = .ok (.bipush (-9), 2) := by decide +kernel
theorem dX7_table_125 : decode cX7_table 125 = .ok (.if_icmp .eq 11, 3) := by decide +kernel
theorem dX7_table_128 : decode cX7_table 128 = .ok (.bipush (-10), 2) := by decide +kernel
theorem dX7_table_130 : decode cX7_table 130 = .ok (.aload_n 0, 1) := by decide +kernel
theorem dX7_table_131 : decode cX7_table 131 = .ok (.getfield 154, 3) := by decide +kernel
theorem dX7_table_134 : decode cX7_table 134 = .ok (.isub, 1) := by decide +kernel
theorem dX7_table_135 : decode cX7_table 135 = .ok (.ireturn, 1) := by decide +kernel
theorem dX7_table_136 : decode cX7_table 136 = .ok (.aload_n 0, 1) := by decide +kernel
theorem dX7_table_137 : decode cX7_table 137 = .ok (.iconst 0, 1) := by decide +kernel
theorem dX7_table_138 : decode cX7_table 138 = .ok (.putfield 182, 3) := by decide +kernel
theorem dX7_table_141 : decode cX7_table 141 = .ok (.aload_n 0, 1) := by decide +kernel
theorem dX7_table_142 : decode cX7_table 142 = .ok (.aload_n 0, 1) := by decide +kernel
theorem dX7_table_143 : decode cX7_table 143 = .ok (.getfield 171, 3) := by decide +kernel
theorem dX7_table_146 : decode cX7_table 146 = .ok (.putfield 185, 3) := by decide +kernel
theorem dX7_table_149 : decode cX7_table 149 = .ok (.iconst 0, 1) := by decide +kernel
theorem dX7_table_150 : decode cX7_table 150 = .ok (.istore_n 2, 1) := by decide +kernel
theorem dX7_table_151 : decode cX7_table 151 = .ok (.iload_n 2, 1) := by decide +kernel
theorem dX7_table_152 : decode cX7_table 152 = .ok (.iconst 5, 1) := by decide +kernel
theorem dX7_table_153 : decode cX7_table 153 = .ok (.if_icmp .ge 109, 3) := by decide +kernel
theorem dX7_table_156 : decode cX7_table 156 = .ok (.aload_n 0, 1) := by decide +kernel
theorem dX7_table_157 : decode cX7_table 157 = .ok (.getfield 54, 3) := by decide +kernel
theorem dX7_table_160 : decode cX7_table 160 = .ok (.iload_n 2, 1) := by decide +kernel
theorem dX7_table_161 : decode cX7_table 161 = .ok (.iaload, 1) := by decide +kernel
theorem dX7_table_162 : decode cX7_table 162 = .ok (.bipush (-9), 2) := by decide +kernel
theorem dX7_table_164 : decode cX7_table 164 = .ok (.if_icmp .eq 92, 3) := by decide +kernel
theorem dX7_table_167 : decode cX7_table 167 = .ok (.aload_n 0, 1) := by decide +kernel
theorem dX7_table_168 : decode cX7_table 168 = .ok (.getfield 13, 3) := by decide +kernel
theorem dX7_table_171 : decode cX7_table 171 = .ok (.aload_n 0, 1) := by decide +kernel
theorem dX7_table_172 : decode cX7_table 172 = .ok (.getfield 182, 3) := by decide +kernel
theorem dX7_table_175 : decode cX7_table 175 = .ok (.iload_n 2, 1) := by decide +kernel
theorem dX7_table_176 : decode cX7_table 176 = .ok (.iastore, 1) := by decide +kernel
theorem dX7_table_177 : decode cX7_table 177 = .ok (.aload_n 0, 1) := by decide +kernel
theorem dX7_table_178 : decode cX7_table 178 = .ok (.getfield 17, 3) := by decide +kernel
theorem dX7_table_181 : decode cX7_table 181 = .ok (.aload_n 0, 1) := by decide +kernel
theorem dX7_table_182 : decode cX7_table 182 = .ok (.getfield 182, 3) := by decide +kernel
theorem dX7_table_185 : decode cX7_table 185 = .ok (.aload_n 0, 1) := by decide +kernel
theorem dX7_table_186 : decode cX7_table 186 = .ok (.getfield 54, 3) := by decide +kernel
theorem dX7_table_189 : decode cX7_table 189 = .ok (.iload_n 2, 1) := by decide +kernel
theorem dX7_table_190 : decode cX7_table 190 = .ok (.iaload, 1) := by decide +kernel
theorem dX7_table_191 : decode cX7_table 191 = .ok (.iastore, 1) := by decide +kernel
theorem dX7_table_192 : decode cX7_table 192 = .ok (.aload_n 0, 1) := by decide +kernel
theorem dX7_table_193 : decode cX7_table 193 = .ok (.getfield 20, 3) := by decide +kernel
theorem dX7_table_196 : decode cX7_table 196 = .ok (.aload_n 0, 1) := by decide +kernel
theorem dX7_table_197 : decode cX7_table 197 = .ok (.getfield 182, 3) := by decide +kernel
theorem dX7_table_200 : decode cX7_table 200 = .ok (.aload_n 0, 1) := by decide +kernel
theorem dX7_table_201 : decode cX7_table 201 = .ok (.getfield 57, 3) := by decide +kernel
theorem dX7_table_204 : decode cX7_table 204 = .ok (.iload_n 2, 1) := by decide +kernel
theorem dX7_table_205 : decode cX7_table 205 = .ok (.iaload, 1) := by decide +kernel
theorem dX7_table_206 : decode cX7_table 206 = .ok (.iastore, 1) := by decide +kernel
theorem dX7_table_207 : decode cX7_table 207 = .ok (.iconst 0, 1) := by decide +kernel
theorem dX7_table_208 : decode cX7_table 208 = .ok (.istore_n 3, 1) := by decide +kernel
theorem dX7_table_209 : decode cX7_table 209 = .ok (.iload_n 3, 1) := by decide +kernel
theorem dX7_table_210 : decode cX7_table 210 = .ok (.aload_n 0, 1) := by decide +kernel
theorem dX7_table_211 : decode cX7_table 211 = .ok (.getfield 185, 3) := by decide +kernel
theorem dX7_table_214 : decode cX7_table 214 = .ok (.if_icmp .ge 32, 3) := by decide +kernel
theorem dX7_table_217 : decode cX7_table 217 = .ok (.aload_n 0, 1) := by decide +kernel
theorem dX7_table_218 : decode cX7_table 218 = .ok (.getfield 39, 3) := by decide +kernel
theorem dX7_table_221 : decode cX7_table 221 = .ok (.iconst 5, 1) := by decide +kernel
theorem dX7_table_222 : decode cX7_table 222 = .ok (.iload_n 3, 1) := by decide +kernel
theorem dX7_table_223 : decode cX7_table 223 = .ok (.imul, 1) := by decide +kernel
theorem dX7_table_224 : decode cX7_table 224 = .ok (.aload_n 0, 1) := by decide +kernel
theorem dX7_table_225 : decode cX7_table 225 = .ok (.getfield 182, 3) := by decide +kernel
theorem dX7_table_228 : decode cX7_table 228 = .ok (.iadd, 1) := by decide +kernel
theorem dX7_table_229 : decode cX7_table 229 = .ok (.aload_n 0, 1) := by decide +kernel
theorem dX7_table_230 : decode cX7_table 230 = .ok (.getfield 69, 3) := by decide +kernel
theorem dX7_table_233 : decode cX7_table 233 = .ok (.iconst 5, 1) := by decide +kernel
theorem dX7_table_234 : decode cX7_table 234 = .ok (.iload_n 3, 1) := by decide +kernel
theorem dX7_table_235 : decode cX7_table 235 = .ok (.imul, 1) := by decide +kernel
theorem dX7_table_236 : decode cX7_table 236 = .ok (.iload_n 2, 1) := by decide +kernel
theorem dX7_table_237 : decode cX7_table 237 = .ok (.iadd, 1) := by decide +kernel
theorem dX7_table_238 : decode cX7_table 238 = .ok (.iaload, 1) := by decide +kernel
theorem dX7_table_239 : decode cX7_table 239 = .ok (.iastore, 1) := by decide +kernel
theorem dX7_table_240 : decode cX7_table 240 = .ok (.iinc 3 1, 3) := by decide +kernel
theorem dX7_table_243 : decode cX7_table 243 = .ok (.goto (-34), 3) := by decide +kernel
theorem dX7_table_246 : decode cX7_table 246 = .ok (.aload_n 0, 1) := by decide +kernel
theorem dX7_table_247 : decode cX7_table 247 = .ok (.dup, 1) := by decide +kernel
theorem dX7_table_248 : decode cX7_table 248 = .ok (.getfield 182, 3) := by decide +kernel
theorem dX7_table_251 : decode cX7_table 251 = .ok (.iconst 1, 1) := by decide +kernel
theorem dX7_table_252 : decode cX7_table 252 = .ok (.iadd, 1) := by decide +kernel
theorem dX7_table_253 : decode cX7_table 253 = .ok (.putfield 182, 3) := by decide +kernel
theorem dX7_table_256 : decode cX7_table 256 = .ok (.iinc 2 1, 3) := by decide +kernel
theorem dX7_table_259 : decode cX7_table 259 = .ok (.goto (-108), 3) := by decide +kernel
theorem dX7_table_262 : decode cX7_table 262 = .ok (.iconst 0, 1) := by decide +kernel
theorem dX7_table_263 : decode cX7_table 263 = .ok (.istore_n 2, 1) := by decide +kernel
theorem dX7_table_264 : decode cX7_table 264 = .ok (.iload_n 2, 1) := by decide +kernel
theorem dX7_table_265 : decode cX7_table 265 = .ok (.aload_n 0, 1) := by decide +kernel
theorem dX7_table_266 : decode cX7_table 266 = .ok (.getfield 185, 3) := by decide +kernel
theorem dX7_table_269 : decode cX7_table 269 = .ok (.if_icmp .ge 45, 3) := by decide +kernel
theorem dX7_table_272 : decode cX7_table 272 = .ok (.aload_n 0, 1) := by decide +kernel
theorem dX7_table_273 : decode cX7_table 273 = .ok (.getfield 27, 3) := by decide +kernel
theorem dX7_table_276 : decode cX7_table 276 = .ok (.iload_n 2, 1) := by decide +kernel
theorem dX7_table_277 : decode cX7_table 277 = .ok (.aload_n 0, 1) := by decide +kernel
theorem dX7_table_278 : decode cX7_table 278 = .ok (.getfield 60, 3) := by decide +kernel
theorem dX7_table_281 : decode cX7_table 281 = .ok (.iload_n 2, 1) := by decide +kernel
theorem dX7_table_282 : decode cX7_table 282 = .ok (.iaload, 1) := by decide +kernel
theorem dX7_table_283 : decode cX7_table 283 = .ok (.iastore, 1) := by decide +kernel
theorem dX7_table_284 : decode cX7_table 284 = .ok (.aload_n 0, 1) := by decide +kernel
theorem dX7_table_285 : decode cX7_table 285 = .ok (.getfield 30, 3) := by decide +kernel
theorem dX7_table_288 : decode cX7_table 288 = .ok (.iload_n 2, 1) := by decide +kernel
theorem dX7_table_289 : decode cX7_table 289 = .ok (.aload_n 0, 1) := by decide +kernel
theorem dX7_table_290 : decode cX7_table 290 = .ok (.getfield 63, 3) := by decide +kernel
theorem dX7_table_293 : decode cX7_table 293 = .ok (.iload_n 2, 1) := by decide +kernel
theorem dX7_table_294 : decode cX7_table 294 = .ok (.iaload, 1) := by decide +kernel
theorem dX7_table_295 : decode cX7_table 295 = .ok (.iastore, 1) := by decide +kernel
theorem dX7_table_296 : decode cX7_table 296 = .ok (.aload_n 0, 1) := by decide +kernel
theorem dX7_table_297 : decode cX7_table 297 = .ok (.getfield 33, 3) := by decide +kernel
theorem dX7_table_300 : decode cX7_table 300 = .ok (.iload_n 2, 1) := by decide +kernel
theorem dX7_table_301 : decode cX7_table 301 = .ok (.aload_n 0, 1) := by decide +kernel
theorem dX7_table_302 : decode cX7_table 302 = .ok (.getfield 66, 3) := by decide +kernel
theorem dX7_table_305 : decode cX7_table 305 = .ok (.iload_n 2, 1) := by decide +kernel
theorem dX7_table_306 : decode cX7_table 306 = .ok (.iaload, 1) := by decide +kernel
theorem dX7_table_307 : decode cX7_table 307 = .ok (.iastore, 1) := by decide +kernel
theorem dX7_table_308 : decode cX7_table 308 = .ok (.iinc 2 1, 3) := by decide +kernel
theorem dX7_table_311 : decode cX7_table 311 = .ok (.goto (-47), 3) := by decide +kernel
theorem dX7_table_314 : decode cX7_table 314 = .ok (.aload_n 0, 1) := by decide +kernel
theorem dX7_table_315 : decode cX7_table 315 = .ok (.invokevirtual 97, 3) := by decide +kernel
theorem dX7_table_318 : decode cX7_table 318 = .ok (.aload_n 0, 1) := by decide +kernel
theorem dX7_table_319 : decode cX7_table 319 = .ok (.iconst 0, 1) := by decide +kernel
theorem dX7_table_320 : decode cX7_table 320 = .ok (.putfield 106, 3) := by decide +kernel
theorem dX7_table_323 : decode cX7_table 323 = .ok (.iload_n 1, 1) := by decide +kernel
theorem dX7_table_324 : decode cX7_table 324 = .ok (.ireturn, 1) := by decide +kernel
theorem dX7_isGate_0 : decode cX7_isGate 0 = .ok (.iload_n 1, 1) := by decide +kernel
theorem dX7_isGate_1 : decode cX7_isGate 1 = .ok (.i2l, 1) := by decide +kernel
theorem dX7_isGate_2 : decode cX7_isGate 2 = .ok (.lconst 0, 1) := by decide +kernel
theorem dX7_isGate_3 : decode cX7_isGate 3 = .ok (.aload_n 0, 1) := by decide +kernel
theorem dX7_isGate_4 : decode cX7_isGate 4 = .ok (.getfield 182, 3) := by decide +kernel
theorem dX7_isGate_7 : decode cX7_isGate 7 = .ok (.iconst 1, 1) := by decide +kernel
theorem dX7_isGate_8 : decode cX7_isGate 8 = .ok (.isub, 1) := by decide +kernel
theorem dX7_isGate_9 : decode cX7_isGate 9 = .ok (.i2l, 1) := by decide +kernel
theorem dX7_isGate_10 : decode cX7_isGate 10 = .ok (.invokestatic 102, 3) := by decide +kernel
theorem dX7_isGate_13 : decode cX7_isGate 13 = .ok (.ireturn, 1) := by decide +kernel
theorem dX7_isWish_0 : decode cX7_isWish 0 = .ok (.iload_n 1, 1) := by decide +kernel
theorem dX7_isWish_1 : decode cX7_isWish 1 = .ok (.i2l, 1) := by decide +kernel
theorem dX7_isWish_2 : decode cX7_isWish 2 = .ok (.lconst 0, 1) := by decide +kernel
theorem dX7_isWish_3 : decode cX7_isWish 3 = .ok (.aload_n 0, 1) := by decide +kernel
theorem dX7_isWish_4 : decode cX7_isWish 4 = .ok (.getfield 185, 3) := by decide +kernel
theorem dX7_isWish_7 : decode cX7_isWish 7 = .ok (.iconst 1, 1) := by decide +kernel
theorem dX7_isWish_8 : decode cX7_isWish 8 = .ok (.isub, 1) := by decide +kernel
theorem dX7_isWish_9 : decode cX7_isWish 9 = .ok (.i2l, 1) := by decide +kernel
theorem dX7_isWish_10 : decode cX7_isWish 10 = .ok (.invokestatic 102, 3) := by decide +kernel
theorem dX7_isWish_13 : decode cX7_isWish 13 = .ok (.ireturn, 1) := by decide +kernel
theorem dX7_gate_0 : decode cX7_gate 0 = .ok (.aload_n 0, 1) := by decide +kernel
theorem dX7_gate_1 : decode cX7_gate 1 = .ok (.iload_n 1, 1) := by decide +kernel
theorem dX7_gate_2 : decode cX7_gate 2 = .ok (.invokevirtual 188, 3) := by decide +kernel
theorem dX7_gate_5 : decode cX7_gate 5 = .ok (.ifCond .eq 15, 3) := by decide +kernel
theorem dX7_gate_8 : decode cX7_gate 8 = .ok (.iload_n 2, 1) := by decide +kernel
theorem dX7_gate_9 : decode cX7_gate 9 = .ok (.i2l, 1) := by decide +kernel
theorem dX7_gate_10 : decode cX7_gate 10 = .ok (.lconst 0, 1) := by decide +kernel
theorem dX7_gate_11 : decode cX7_gate 11 = .ok (.ldc2_w 192, 3) := by decide +kernel
theorem dX7_gate_14 : decode cX7_gate 14 = .ok (.invokestatic 102, 3) := by decide +kernel
theorem dX7_gate_17 : decode cX7_gate 17 = .ok (.ifCond .ne 5, 3) := by decide +kernel
theorem dX7_gate_20 : decode cX7_gate 20 = .ok (.iconst (-1), 1) := by decide +kernel
theorem dX7_gate_21 : decode cX7_gate 21 = .ok (.ireturn, 1) := by decide +kernel
theorem dX7_gate_22 : decode cX7_gate 22 = .ok (.iload_n 2, 1) := by decide +kernel
theorem dX7_gate_23 : decode cX7_gate 23 = .ok (.ifCond .ne 12, 3) := by decide +kernel
theorem dX7_gate_26 : decode cX7_gate 26 = .ok (.aload_n 0, 1) := by decide +kernel
theorem dX7_gate_27 : decode cX7_gate 27 = .ok (.getfield 13, 3) := by decide +kernel
theorem dX7_gate_30 : decode cX7_gate 30 = .ok (.iload_n 1, 1) := by decide +kernel
theorem dX7_gate_31 : decode cX7_gate 31 = .ok (.iaload, 1) := by decide +kernel
theorem dX7_gate_32 : decode cX7_gate 32 = .ok (.goto 45, 3) := by decide +kernel
theorem dX7_gate_35 : decode cX7_gate 35 = .ok (.iload_n 2, 1) := by decide +kernel
theorem dX7_gate_36 : decode cX7_gate 36 = .ok (.iconst 1, 1) := by decide +kernel
theorem dX7_gate_37 : decode cX7_gate 37 = .ok (.if_icmp .ne 12, 3) := by decide +kernel
theorem dX7_gate_40 : decode cX7_gate 40 = .ok (.aload_n 0, 1) := by decide +kernel
theorem dX7_gate_41 : decode cX7_gate 41 = .ok (.getfield 17, 3) := by decide +kernel
theorem dX7_gate_44 : decode cX7_gate 44 = .ok (.iload_n 1, 1) := by decide +kernel
theorem dX7_gate_45 : decode cX7_gate 45 = .ok (.iaload, 1) := by decide +kernel
theorem dX7_gate_46 : decode cX7_gate 46 = .ok (.goto 31, 3) := by decide +kernel
theorem dX7_gate_49 : decode cX7_gate 49 = .ok (.iload_n 2, 1) := by decide +kernel
theorem dX7_gate_50 : decode cX7_gate 50 = .ok (.iconst 2, 1) := by decide +kernel
theorem dX7_gate_51 : decode cX7_gate 51 = .ok (.if_icmp .ne 12, 3) := by decide +kernel
theorem dX7_gate_54 : decode cX7_gate 54 = .ok (.aload_n 0, 1) := by decide +kernel
theorem dX7_gate_55 : decode cX7_gate 55 = .ok (.getfield 20, 3) := by decide +kernel
theorem dX7_gate_58 : decode cX7_gate 58 = .ok (.iload_n 1, 1) := by decide +kernel
theorem dX7_gate_59 : decode cX7_gate 59 = .ok (.iaload, 1) := by decide +kernel
theorem dX7_gate_60 : decode cX7_gate 60 = .ok (.goto 17, 3) := by decide +kernel
theorem dX7_gate_63 : decode cX7_gate 63 = .ok (.aload_n 0, 1) := by decide +kernel
theorem dX7_gate_64 : decode cX7_gate 64 = .ok (.getfield 23, 3) := by decide +kernel
theorem dX7_gate_67 : decode cX7_gate 67 = .ok (.iload_n 1, 1) := by decide +kernel
theorem dX7_gate_68 : decode cX7_gate 68 = .ok (.baload, 1) := by decide +kernel
theorem dX7_gate_69 : decode cX7_gate 69 = .ok (.ifCond .eq 7, 3) := by decide +kernel
theorem dX7_gate_72 : decode cX7_gate 72 = .ok (.iconst 1, 1) := by decide +kernel
theorem dX7_gate_73 : decode cX7_gate 73 = .ok (.goto 4, 3) := by decide +kernel
theorem dX7_gate_76 : decode cX7_gate 76 = .ok (.iconst 0, 1) := by decide +kernel
theorem dX7_gate_77 : decode cX7_gate 77 = .ok (.ireturn, 1) := by decide +kernel
theorem dX7_wish_0 : decode cX7_wish 0 = .ok (.aload_n 0, 1) := by decide +kernel
theorem dX7_wish_1 : decode cX7_wish 1 = .ok (.iload_n 1, 1) := by decide +kernel
theorem dX7_wish_2 : decode cX7_wish 2 = .ok (.invokevirtual 194, 3) := by decide +kernel
theorem dX7_wish_5 : decode cX7_wish 5 = .ok (.ifCond .eq 15, 3) := by decide +kernel
theorem dX7_wish_8 : decode cX7_wish 8 = .ok (.iload_n 2, 1) := by decide +kernel
theorem dX7_wish_9 : decode cX7_wish 9 = .ok (.i2l, 1) := by decide +kernel
theorem dX7_wish_10 : decode cX7_wish 10 = .ok (.lconst 0, 1) := by decide +kernel
theorem dX7_wish_11 : decode cX7_wish 11 = .ok (.ldc2_w 192, 3) := by decide +kernel
theorem dX7_wish_14 : decode cX7_wish 14 = .ok (.invokestatic 102, 3) := by decide +kernel
theorem dX7_wish_17 : decode cX7_wish 17 = .ok (.ifCond .ne 5, 3) := by decide +kernel
theorem dX7_wish_20 : decode cX7_wish 20 = .ok (.iconst (-1), 1) := by decide +kernel
theorem dX7_wish_21 : decode cX7_wish 21 = .ok (.ireturn, 1) := by decide +kernel
theorem dX7_wish_22 : decode cX7_wish 22 = .ok (.iload_n 2, 1) := by decide +kernel
theorem dX7_wish_23 : decode cX7_wish 23 = .ok (.ifCond .ne 12, 3) := by decide +kernel
theorem dX7_wish_26 : decode cX7_wish 26 = .ok (.aload_n 0, 1) := by decide +kernel
theorem dX7_wish_27 : decode cX7_wish 27 = .ok (.getfield 27, 3) := by decide +kernel
theorem dX7_wish_30 : decode cX7_wish 30 = .ok (.iload_n 1, 1) := by decide +kernel
theorem dX7_wish_31 : decode cX7_wish 31 = .ok (.iaload, 1) := by decide +kernel
theorem dX7_wish_32 : decode cX7_wish 32 = .ok (.goto 45, 3) := by decide +kernel
theorem dX7_wish_35 : decode cX7_wish 35 = .ok (.iload_n 2, 1) := by decide +kernel
theorem dX7_wish_36 : decode cX7_wish 36 = .ok (.iconst 1, 1) := by decide +kernel
theorem dX7_wish_37 : decode cX7_wish 37 = .ok (.if_icmp .ne 12, 3) := by decide +kernel
theorem dX7_wish_40 : decode cX7_wish 40 = .ok (.aload_n 0, 1) := by decide +kernel
theorem dX7_wish_41 : decode cX7_wish 41 = .ok (.getfield 30, 3) := by decide +kernel
theorem dX7_wish_44 : decode cX7_wish 44 = .ok (.iload_n 1, 1) := by decide +kernel
theorem dX7_wish_45 : decode cX7_wish 45 = .ok (.iaload, 1) := by decide +kernel
theorem dX7_wish_46 : decode cX7_wish 46 = .ok (.goto 31, 3) := by decide +kernel
theorem dX7_wish_49 : decode cX7_wish 49 = .ok (.iload_n 2, 1) := by decide +kernel
theorem dX7_wish_50 : decode cX7_wish 50 = .ok (.iconst 2, 1) := by decide +kernel
theorem dX7_wish_51 : decode cX7_wish 51 = .ok (.if_icmp .ne 12, 3) := by decide +kernel
theorem dX7_wish_54 : decode cX7_wish 54 = .ok (.aload_n 0, 1) := by decide +kernel
theorem dX7_wish_55 : decode cX7_wish 55 = .ok (.getfield 33, 3) := by decide +kernel
theorem dX7_wish_58 : decode cX7_wish 58 = .ok (.iload_n 1, 1) := by decide +kernel
theorem dX7_wish_59 : decode cX7_wish 59 = .ok (.iaload, 1) := by decide +kernel
theorem dX7_wish_60 : decode cX7_wish 60 = .ok (.goto 17, 3) := by decide +kernel
theorem dX7_wish_63 : decode cX7_wish 63 = .ok (.aload_n 0, 1) := by decide +kernel
theorem dX7_wish_64 : decode cX7_wish 64 = .ok (.getfield 36, 3) := by decide +kernel
theorem dX7_wish_67 : decode cX7_wish 67 = .ok (.iload_n 1, 1) := by decide +kernel
theorem dX7_wish_68 : decode cX7_wish 68 = .ok (.baload, 1) := by decide +kernel
theorem dX7_wish_69 : decode cX7_wish 69 = .ok (.ifCond .eq 7, 3) := by decide +kernel
theorem dX7_wish_72 : decode cX7_wish 72 = .ok (.iconst 1, 1) := by decide +kernel
theorem dX7_wish_73 : decode cX7_wish 73 = .ok (.goto 4, 3) := by decide +kernel
theorem dX7_wish_76 : decode cX7_wish 76 = .ok (.iconst 0, 1) := by decide +kernel
theorem dX7_wish_77 : decode cX7_wish 77 = .ok (.ireturn, 1) := by decide +kernel
theorem dX7_uses_0 : decode cX7_uses 0 = .ok (.aload_n 0, 1) := by decide +kernel
theorem dX7_uses_1 : decode cX7_uses 1 = .ok (.iload_n 1, 1) := by decide +kernel
theorem dX7_uses_2 : decode cX7_uses 2 = .ok (.invokevirtual 194, 3) := by decide +kernel
theorem dX7_uses_5 : decode cX7_uses 5 = .ok (.ifCond .eq 24, 3) := by decide +kernel
theorem dX7_uses_8 : decode cX7_uses 8 = .ok (.aload_n 0, 1) := by decide +kernel
theorem dX7_uses_9 : decode cX7_uses 9 = .ok (.iload_n 2, 1) := by decide +kernel
theorem dX7_uses_10 : decode cX7_uses 10 = .ok (.invokevirtual 188, 3) := by decide +kernel
theorem dX7_uses_13 : decode cX7_uses 13 = .ok (.ifCond .eq 16, 3) := by decide +kernel
theorem dX7_uses_16 : decode cX7_uses 16 = .ok (.aload_n 0, 1) := by decide +kernel
theorem dX7_uses_17 : decode cX7_uses 17 = .ok (.getfield 39, 3) := by decide +kernel
theorem dX7_uses_20 : decode cX7_uses 20 = .ok (.iconst 5, 1) := by decide +kernel
theorem dX7_uses_21 : decode cX7_uses 21 = .ok (.iload_n 1, 1) := by decide +kernel
theorem dX7_uses_22 : decode cX7_uses 22 = .ok (.imul, 1) := by decide +kernel
theorem dX7_uses_23 : decode cX7_uses 23 = .ok (.iload_n 2, 1) := by decide +kernel
theorem dX7_uses_24 : decode cX7_uses 24 = .ok (.iadd, 1) := by decide +kernel
theorem dX7_uses_25 : decode cX7_uses 25 = .ok (.iaload, 1) := by decide +kernel
theorem dX7_uses_26 : decode cX7_uses 26 = .ok (.goto 4, 3) := by decide +kernel
theorem dX7_uses_29 : decode cX7_uses 29 = .ok (.iconst (-1), 1) := by decide +kernel
theorem dX7_uses_30 : decode cX7_uses 30 = .ok (.ireturn, 1) := by decide +kernel
theorem dX7_jam_0 : decode cX7_jam 0 = .ok (.aload_n 0, 1) := by decide +kernel
theorem dX7_jam_1 : decode cX7_jam 1 = .ok (.iload_n 1, 1) := by decide +kernel
theorem dX7_jam_2 : decode cX7_jam 2 = .ok (.invokevirtual 188, 3) := by decide +kernel
theorem dX7_jam_5 : decode cX7_jam 5 = .ok (.ifCond .eq 15, 3) := by decide +kernel
theorem dX7_jam_8 : decode cX7_jam 8 = .ok (.iload_n 2, 1) := by decide +kernel
theorem dX7_jam_9 : decode cX7_jam 9 = .ok (.i2l, 1) := by decide +kernel
theorem dX7_jam_10 : decode cX7_jam 10 = .ok (.lconst 0, 1) := by decide +kernel
theorem dX7_jam_11 : decode cX7_jam 11 = .ok (.ldc2_w 197, 3) := by decide +kernel
theorem dX7_jam_14 : decode cX7_jam 14 = .ok (.invokestatic 102, 3) := by decide +kernel
theorem dX7_jam_17 : decode cX7_jam 17 = .ok (.ifCond .ne 5, 3) := by decide +kernel
theorem dX7_jam_20 : decode cX7_jam 20 = .ok (.iconst (-1), 1) := by decide +kernel
theorem dX7_jam_21 : decode cX7_jam 21 = .ok (.ireturn, 1) := by decide +kernel
theorem dX7_jam_22 : decode cX7_jam 22 = .ok (.aload_n 0, 1) := by decide +kernel
theorem dX7_jam_23 : decode cX7_jam 23 = .ok (.getfield 20, 3) := by decide +kernel
theorem dX7_jam_26 : decode cX7_jam 26 = .ok (.iload_n 1, 1) := by decide +kernel
theorem dX7_jam_27 : decode cX7_jam 27 = .ok (.iaload, 1) := by decide +kernel
theorem dX7_jam_28 : decode cX7_jam 28 = .ok (.istore_n 3, 1) := by decide +kernel
theorem dX7_jam_29 : decode cX7_jam 29 = .ok (.aload_n 0, 1) := by decide +kernel
theorem dX7_jam_30 : decode cX7_jam 30 = .ok (.getfield 20, 3) := by decide +kernel
theorem dX7_jam_33 : decode cX7_jam 33 = .ok (.iload_n 1, 1) := by decide +kernel
theorem dX7_jam_34 : decode cX7_jam 34 = .ok (.iload_n 2, 1) := by decide +kernel
theorem dX7_jam_35 : decode cX7_jam 35 = .ok (.iastore, 1) := by decide +kernel
theorem dX7_jam_36 : decode cX7_jam 36 = .ok (.iload_n 3, 1) := by decide +kernel
theorem dX7_jam_37 : decode cX7_jam 37 = .ok (.ireturn, 1) := by decide +kernel
theorem dX7_off_0 : decode cX7_off 0 = .ok (.iload_n 1, 1) := by decide +kernel
theorem dX7_off_1 : decode cX7_off 1 = .ok (.i2l, 1) := by decide +kernel
theorem dX7_off_2 : decode cX7_off 2 = .ok (.lconst 0, 1) := by decide +kernel
theorem dX7_off_3 : decode cX7_off 3 = .ok (.lconst 1, 1) := by decide +kernel
theorem dX7_off_4 : decode cX7_off 4 = .ok (.invokestatic 102, 3) := by decide +kernel
theorem dX7_off_7 : decode cX7_off 7 = .ok (.ifCond .eq 36, 3) := by decide +kernel
theorem dX7_off_10 : decode cX7_off 10 = .ok (.iload_n 1, 1) := by decide +kernel
theorem dX7_off_11 : decode cX7_off 11 = .ok (.ifCond .ne 14, 3) := by decide +kernel
theorem dX7_off_14 : decode cX7_off 14 = .ok (.aload_n 0, 1) := by decide +kernel
theorem dX7_off_15 : decode cX7_off 15 = .ok (.iload_n 2, 1) := by decide +kernel
theorem dX7_off_16 : decode cX7_off 16 = .ok (.invokevirtual 188, 3) := by decide +kernel
theorem dX7_off_19 : decode cX7_off 19 = .ok (.ifCond .eq 24, 3) := by decide +kernel
theorem dX7_off_22 : decode cX7_off 22 = .ok (.goto 11, 3) := by decide +kernel
theorem dX7_off_25 : decode cX7_off 25 = .ok (.aload_n 0, 1) := by decide +kernel
theorem dX7_off_26 : decode cX7_off 26 = .ok (.iload_n 2, 1) := by decide +kernel
theorem dX7_off_27 : decode cX7_off 27 = .ok (.invokevirtual 194, 3) := by decide +kernel
theorem dX7_off_30 : decode cX7_off 30 = .ok (.ifCond .eq 13, 3) := by decide +kernel
theorem dX7_off_33 : decode cX7_off 33 = .ok (.iload_n 3, 1) := by decide +kernel
theorem dX7_off_34 : decode cX7_off 34 = .ok (.i2l, 1) := by decide +kernel
theorem dX7_off_35 : decode cX7_off 35 = .ok (.lconst 0, 1) := by decide +kernel
theorem dX7_off_36 : decode cX7_off 36 = .ok (.lconst 1, 1) := by decide +kernel
theorem dX7_off_37 : decode cX7_off 37 = .ok (.invokestatic 102, 3) := by decide +kernel
theorem dX7_off_40 : decode cX7_off 40 = .ok (.ifCond .ne 5, 3) := by decide +kernel
theorem dX7_off_43 : decode cX7_off 43 = .ok (.iconst (-1), 1) := by decide +kernel
