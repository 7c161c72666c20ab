theorem dX0_init_0 : decode cX0_init 0 = .ok (.aload_n 0, 1) := by decide +kernel
theorem dX0_init_1 : decode cX0_init 1 = .ok (.invokespecial 1, 3) := by decide +kernel
theorem dX0_init_4 : decode cX0_init 4 = .ok (.return_, 1) := by decide +kernel
theorem dX1_init_0 : decode cX1_init 0 = .ok (.aload_n 0, 1) := by decide +kernel
theorem dX1_init_1 : decode cX1_init 1 = .ok (.invokespecial 1, 3) := by decide +kernel
theorem dX1_init_4 : decode cX1_init 4 = .ok (.return_, 1) := by decide +kernel
theorem dX1_worth_0 : decode cX1_worth 0 = .ok (.aload_n 1, 1) := by decide +kernel
theorem dX1_worth_1 : decode cX1_worth 1 = .ok (.dup, 1) := by decide +kernel
theorem dX1_worth_2 : decode cX1_worth 2 = .ok (.getfield 7, 3) := by decide +kernel
theorem dX1_worth_5 : decode cX1_worth 5 = .ok (.ldc2_w 13, 3) := by decide +kernel
theorem dX1_worth_8 : decode cX1_worth 8 = .ok (.ladd, 1) := by decide +kernel
theorem dX1_worth_9 : decode cX1_worth 9 = .ok (.putfield 7, 3) := by decide +kernel
theorem dX1_worth_12 : decode cX1_worth 12 = .ok (.aload_n 0, 1) := by decide +kernel
theorem dX1_worth_13 : decode cX1_worth 13 = .ok (.aload_n 1, 1) := by decide +kernel
theorem dX1_worth_14 : decode cX1_worth 14 = .ok (.invokespecial 15, 3) := by decide +kernel
theorem dX1_worth_17 : decode cX1_worth 17 = .ok (.aload_n 1, 1) := by decide +kernel
theorem dX1_worth_18 : decode cX1_worth 18 = .ok (.getfield 19, 3) := by decide +kernel
theorem dX1_worth_21 : decode cX1_worth 21 = .ok (.isub, 1) := by decide +kernel
theorem dX1_worth_22 : decode cX1_worth 22 = .ok (.ireturn, 1) := by decide +kernel
theorem dX2_init_0 : decode cX2_init 0 = .ok (.aload_n 0, 1) := by decide +kernel
theorem dX2_init_1 : decode cX2_init 1 = .ok (.invokespecial 1, 3) := by decide +kernel
theorem dX2_init_4 : decode cX2_init 4 = .ok (.return_, 1) := by decide +kernel
theorem dX2_worth_0 : decode cX2_worth 0 = .ok (.aload_n 1, 1) := by decide +kernel
theorem dX2_worth_1 : decode cX2_worth 1 = .ok (.dup, 1) := by decide +kernel
theorem dX2_worth_2 : decode cX2_worth 2 = .ok (.getfield 7, 3) := by decide +kernel
theorem dX2_worth_5 : decode cX2_worth 5 = .ok (.ldc2_w 13, 3) := by decide +kernel
theorem dX2_worth_8 : decode cX2_worth 8 = .ok (.ladd, 1) := by decide +kernel
theorem dX2_worth_9 : decode cX2_worth 9 = .ok (.putfield 7, 3) := by decide +kernel
theorem dX2_worth_12 : decode cX2_worth 12 = .ok (.iconst 2, 1) := by decide +kernel
theorem dX2_worth_13 : decode cX2_worth 13 = .ok (.aload_n 0, 1) := by decide +kernel
theorem dX2_worth_14 : decode cX2_worth 14 = .ok (.aload_n 1, 1) := by decide +kernel
theorem dX2_worth_15 : decode cX2_worth 15 = .ok (.invokespecial 15, 3) := by decide +kernel
theorem dX2_worth_18 : decode cX2_worth 18 = .ok (.imul, 1) := by decide +kernel
theorem dX2_worth_19 : decode cX2_worth 19 = .ok (.ireturn, 1) := by decide +kernel
theorem dX3_init_0 : decode cX3_init 0 = .ok (.aload_n 0, 1) := by decide +kernel
theorem dX3_init_1 : decode cX3_init 1 = .ok (.invokespecial 1, 3) := by decide +kernel
theorem dX3_init_4 : decode cX3_init 4 = .ok (.return_, 1) := by decide +kernel
theorem dX3_worth_0 : decode cX3_worth 0 = .ok (.aload_n 1, 1) := by decide +kernel
theorem dX3_worth_1 : decode cX3_worth 1 = .ok (.dup, 1) := by decide +kernel
theorem dX3_worth_2 : decode cX3_worth 2 = .ok (.getfield 7, 3) := by decide +kernel
theorem dX3_worth_5 : decode cX3_worth 5 = .ok (.ldc2_w 13, 3) := by decide +kernel
theorem dX3_worth_8 : decode cX3_worth 8 = .ok (.ladd, 1) := by decide +kernel
theorem dX3_worth_9 : decode cX3_worth 9 = .ok (.putfield 7, 3) := by decide +kernel
theorem dX3_worth_12 : decode cX3_worth 12 = .ok (.aload_n 0, 1) := by decide +kernel
theorem dX3_worth_13 : decode cX3_worth 13 = .ok (.aload_n 1, 1) := by decide +kernel
theorem dX3_worth_14 : decode cX3_worth 14 = .ok (.invokespecial 15, 3) := by decide +kernel
theorem dX3_worth_17 : decode cX3_worth 17 = .ok (.aload_n 1, 1) := by decide +kernel
theorem dX3_worth_18 : decode cX3_worth 18 = .ok (.getfield 19, 3) := by decide +kernel
theorem dX3_worth_21 : decode cX3_worth 21 = .ok (.iadd, 1) := by decide +kernel
theorem dX3_worth_22 : decode cX3_worth 22 = .ok (.ireturn, 1) := by decide +kernel
theorem dX4_init_0 : decode cX4_init 0 = .ok (.aload_n 0, 1) := by decide +kernel
theorem dX4_init_1 : decode cX4_init 1 = .ok (.invokespecial 1, 3) := by decide +kernel
theorem dX4_init_4 : decode cX4_init 4 = .ok (.return_, 1) := by decide +kernel
theorem dX4_worth_0 : decode cX4_worth 0 = .ok (.aload_n 1, 1) := by decide +kernel
theorem dX4_worth_1 : decode cX4_worth 1 = .ok (.dup, 1) := by decide +kernel
theorem dX4_worth_2 : decode cX4_worth 2 = .ok (.getfield 7, 3) := by decide +kernel
theorem dX4_worth_5 : decode cX4_worth 5 = .ok (.ldc2_w 13, 3) := by decide +kernel
theorem dX4_worth_8 : decode cX4_worth 8 = .ok (.ladd, 1) := by decide +kernel
theorem dX4_worth_9 : decode cX4_worth 9 = .ok (.putfield 7, 3) := by decide +kernel
theorem dX4_worth_12 : decode cX4_worth 12 = .ok (.aload_n 0, 1) := by decide +kernel
theorem dX4_worth_13 : decode cX4_worth 13 = .ok (.aload_n 1, 1) := by decide +kernel
theorem dX4_worth_14 : decode cX4_worth 14 = .ok (.invokespecial 15, 3) := by decide +kernel
theorem dX4_worth_17 : decode cX4_worth 17 = .ok (.aload_n 1, 1) := by decide +kernel
theorem dX4_worth_18 : decode cX4_worth 18 = .ok (.getfield 19, 3) := by decide +kernel
theorem dX4_worth_21 : decode cX4_worth 21 = .ok (.iadd, 1) := by decide +kernel
theorem dX4_worth_22 : decode cX4_worth 22 = .ok (.ireturn, 1) := by decide +kernel
theorem dX5_init_0 : decode cX5_init 0 = .ok (.aload_n 0, 1) := by decide +kernel
theorem dX5_init_1 : decode cX5_init 1 = .ok (.invokespecial 3, 3) := by decide +kernel
theorem dX5_init_4 : decode cX5_init 4 = .ok (.aload_n 0, 1) := by decide +kernel
theorem dX5_init_5 : decode cX5_init 5 = .ok (.bipush 6, 2) := by decide +kernel
theorem dX5_init_7 : decode cX5_init 7 = .ok (.newarray .int, 2) := by decide +kernel
theorem dX5_init_9 : decode cX5_init 9 = .ok (.putfield 9, 3) := by decide +kernel
theorem dX5_init_12 : decode cX5_init 12 = .ok (.aload_n 0, 1) := by decide +kernel
theorem dX5_init_13 : decode cX5_init 13 = .ok (.bipush 6, 2) := by decide +kernel
theorem dX5_init_15 : decode cX5_init 15 = .ok (.newarray .int, 2) := by decide +kernel
theorem dX5_init_17 : decode cX5_init 17 = .ok (.putfield 15, 3) := by decide +kernel
theorem dX5_init_20 : decode cX5_init 20 = .ok (.aload_n 0, 1) := by decide +kernel
theorem dX5_init_21 : decode cX5_init 21 = .ok (.bipush 6, 2) := by decide +kernel
theorem dX5_init_23 : decode cX5_init 23 = .ok (.newarray .int, 2) := by decide +kernel
theorem dX5_init_25 : decode cX5_init 25 = .ok (.putfield 18, 3) := by decide +kernel
theorem dX5_init_28 : decode cX5_init 28 = .ok (.return_, 1) := by decide +kernel
theorem dX5_share_0 : decode cX5_share 0 = .ok (.aload_n 0, 1) := by decide +kernel
theorem dX5_share_1 : decode cX5_share 1 = .ok (.aload_n 1, 1) := by decide +kernel
theorem dX5_share_2 : decode cX5_share 2 = .ok (.getfield 21, 3) := by decide +kernel
theorem dX5_share_5 : decode cX5_share 5 = .ok (.putfield 27, 3) := by decide +kernel
theorem dX5_share_8 : decode cX5_share 8 = .ok (.aload_n 0, 1) := by decide +kernel
theorem dX5_share_9 : decode cX5_share 9 = .ok (.aload_n 1, 1) := by decide +kernel
theorem dX5_share_10 : decode cX5_share 10 = .ok (.getfield 28, 3) := by decide +kernel
theorem dX5_share_13 : decode cX5_share 13 = .ok (.putfield 31, 3) := by decide +kernel
theorem dX5_share_16 : decode cX5_share 16 = .ok (.aload_n 2, 1) := by decide +kernel
theorem dX5_share_17 : decode cX5_share 17 = .ok (.getfield 32, 3) := by decide +kernel
theorem dX5_share_20 : decode cX5_share 20 = .ok (.iconst 0, 1) := by decide +kernel
theorem dX5_share_21 : decode cX5_share 21 = .ok (.aload_n 0, 1) := by decide +kernel
theorem dX5_share_22 : decode cX5_share 22 = .ok (.getfield 18, 3) := by decide +kernel
theorem dX5_share_25 : decode cX5_share 25 = .ok (.iconst 0, 1) := by decide +kernel
theorem dX5_share_26 : decode cX5_share 26 = .ok (.bipush 6, 2) := by decide +kernel
theorem dX5_share_28 : decode cX5_share 28 = .ok (.invokestatic 37, 3) := by decide +kernel
theorem dX5_share_31 : decode cX5_share 31 = .ok (.iconst 0, 1) := by decide +kernel
theorem dX5_share_32 : decode cX5_share 32 = .ok (.istore_n 3, 1) := by decide +kernel
theorem dX5_share_33 : decode cX5_share 33 = .ok (.iload_n 3, 1) := by decide +kernel
theorem dX5_share_34 : decode cX5_share 34 = .ok (.aload_n 0, 1) := by decide +kernel
theorem dX5_share_35 : decode cX5_share 35 = .ok (.getfield 27, 3) := by decide +kernel
theorem dX5_share_38 : decode cX5_share 38 = .ok (.if_icmp .ge 21, 3) := by decide +kernel
theorem dX5_share_41 : decode cX5_share 41 = .ok (.aload_n 0, 1) := by decide +kernel
theorem dX5_share_42 : decode cX5_share 42 = .ok (.getfield 15, 3) := by decide +kernel
theorem dX5_share_45 : decode cX5_share 45 = .ok (.iload_n 3, 1) := by decide +kernel
theorem dX5_share_46 : decode cX5_share 46 = .ok (.aload_n 1, 1) := by decide +kernel
theorem dX5_share_47 : decode cX5_share 47 = .ok (.aload_n 2, 1) := by decide +kernel
theorem dX5_share_48 : decode cX5_share 48 = .ok (.iload_n 3, 1) := by decide +kernel
theorem dX5_share_49 : decode cX5_share 49 = .ok (.invokevirtual 43, 3) := by decide +kernel
theorem dX5_share_52 : decode cX5_share 52 = .ok (.iastore, 1) := by decide +kernel
theorem dX5_share_53 : decode cX5_share 53 = .ok (.iinc 3 1, 3) := by decide +kernel
theorem dX5_share_56 : decode cX5_share 56 = .ok (.goto (-23), 3) := by decide +kernel
theorem dX5_share_59 : decode cX5_share 59 = .ok (.aload_n 0, 1) := by decide +kernel
theorem dX5_share_60 : decode cX5_share 60 = .ok (.iconst 0, 1) := by decide +kernel
theorem dX5_share_61 : decode cX5_share 61 = .ok (.invokevirtual 46, 3) := by decide +kernel
theorem dX5_share_64 : decode cX5_share 64 = .ok (.istore_n 3, 1) := by decide +kernel
theorem dX5_share_65 : decode cX5_share 65 = .ok (.iload_n 3, 1) := by decide +kernel
theorem dX5_share_66 : decode cX5_share 66 = .ok (.istore 4, 2) := by decide +kernel
theorem dX5_share_68 : decode cX5_share 68 = .ok (.iconst 0, 1) := by decide +kernel
theorem dX5_share_69 : decode cX5_share 69 = .ok (.istore 5, 2) := by decide +kernel
theorem dX5_share_71 : decode cX5_share 71 = .ok (.iload 5, 2) := by decide +kernel
theorem dX5_share_73 : decode cX5_share 73 = .ok (.aload_n 0, 1) := by decide +kernel
theorem dX5_share_74 : decode cX5_share 74 = .ok (.getfield 27, 3) := by decide +kernel
theorem dX5_share_77 : decode cX5_share 77 = .ok (.if_icmp .ge 39, 3) := by decide +kernel
theorem dX5_share_80 : decode cX5_share 80 = .ok (.aload_n 0, 1) := by decide +kernel
theorem dX5_share_81 : decode cX5_share 81 = .ok (.getfield 9, 3) := by decide +kernel
theorem dX5_share_84 : decode cX5_share 84 = .ok (.iload 5, 2) := by decide +kernel
theorem dX5_share_86 : decode cX5_share 86 = .ok (.aload_n 0, 1) := by decide +kernel
theorem dX5_share_87 : decode cX5_share 87 = .ok (.iload 5, 2) := by decide +kernel
theorem dX5_share_89 : decode cX5_share 89 = .ok (.iload 4, 2) := by decide +kernel
theorem dX5_share_91 : decode cX5_share 91 = .ok (.invokevirtual 50, 3) := by decide +kernel
theorem dX5_share_94 : decode cX5_share 94 = .ok (.iastore, 1) := by decide +kernel
theorem dX5_share_95 : decode cX5_share 95 = .ok (.aload_n 0, 1) := by decide +kernel
theorem dX5_share_96 : decode cX5_share 96 = .ok (.getfield 9, 3) := by decide +kernel
theorem dX5_share_99 : decode cX5_share 99 = .ok (.iload 5, 2) := by decide +kernel
theorem dX5_share_101 : decode cX5_share 101 = .ok (.iaload, 1) := by decide +kernel
theorem dX5_share_102 : decode cX5_share 102 = .ok (.bipush (-9), 2) := by decide +kernel
theorem dX5_share_104 : decode cX5_share 104 = .ok (.if_icmp .eq 6, 3) := by decide +kernel
theorem dX5_share_107 : decode cX5_share 107 = .ok (.iinc 4 (-1), 3) := by decide +kernel
theorem dX5_share_110 : decode cX5_share 110 = .ok (.iinc 5 1, 3) := by decide +kernel
theorem dX5_share_113 : decode cX5_share 113 = .ok (.goto (-42), 3) := by decide +kernel
theorem dX5_share_116 : decode cX5_share 116 = .ok (.iload_n 3, 1) := by decide +kernel
theorem dX5_share_117 : decode cX5_share 117 = .ok (.ireturn, 1) := by decide +kernel
theorem dX5_firstFor_0 : decode cX5_firstFor 0 = .ok (.iconst 0, 1) := by decide +kernel
theorem dX5_firstFor_1 : decode cX5_firstFor 1 = .ok (.istore_n 3, 1) := by decide +kernel
theorem dX5_firstFor_2 : decode cX5_firstFor 2 = .ok (.iload_n 3, 1) := by decide +kernel
theorem dX5_firstFor_3 : decode cX5_firstFor 3 = .ok (.aload_n 0, 1) := by decide +kernel
theorem dX5_firstFor_4 : decode cX5_firstFor 4 = .ok (.getfield 31, 3) := by decide +kernel
theorem dX5_firstFor_7 : decode cX5_firstFor 7 = .ok (.if_icmp .ge 67, 3) := by decide +kernel
theorem dX5_firstFor_10 : decode cX5_firstFor 10 = .ok (.aload_n 0, 1) := by decide +kernel
theorem dX5_firstFor_11 : decode cX5_firstFor 11 = .ok (.getfield 15, 3) := by decide +kernel
theorem dX5_firstFor_14 : decode cX5_firstFor 14 = .ok (.iload_n 1, 1) := by decide +kernel
theorem dX5_firstFor_15 : decode cX5_firstFor 15 = .ok (.iaload, 1) := by decide +kernel
theorem dX5_firstFor_16 : decode cX5_firstFor 16 = .ok (.iload_n 3, 1) := by decide +kernel
theorem dX5_firstFor_17 : decode cX5_firstFor 17 = .ok (.ishr, 1) := by decide +kernel
theorem dX5_firstFor_18 : decode cX5_firstFor 18 = .ok (.iconst 1, 1) := by decide +kernel
theorem dX5_firstFor_19 : decode cX5_firstFor 19 = .ok (.iand, 1) := by decide +kernel
theorem dX5_firstFor_20 : decode cX5_firstFor 20 = .ok (.iconst 1, 1) := by decide +kernel
theorem dX5_firstFor_21 : decode cX5_firstFor 21 = .ok (.if_icmp .ne 47, 3) := by decide +kernel
theorem dX5_firstFor_24 : decode cX5_firstFor 24 = .ok (.aload_n 0, 1) := by decide +kernel
theorem dX5_firstFor_25 : decode cX5_firstFor 25 = .ok (.getfield 18, 3) := by decide +kernel
theorem dX5_firstFor_28 : decode cX5_firstFor 28 = .ok (.iload_n 3, 1) := by decide +kernel
theorem dX5_firstFor_29 : decode cX5_firstFor 29 = .ok (.iaload, 1) := by decide +kernel
theorem dX5_firstFor_30 : decode cX5_firstFor 30 = .ok (.ifCond .le 38, 3) := by decide +kernel
theorem dX5_firstFor_33 : decode cX5_firstFor 33 = .ok (.aload_n 0, 1) := by decide +kernel
theorem dX5_firstFor_34 : decode cX5_firstFor 34 = .ok (.getfield 18, 3) := by decide +kernel
theorem dX5_firstFor_37 : decode cX5_firstFor 37 = .ok (.iload_n 3, 1) := by decide +kernel
theorem dX5_firstFor_38 : decode cX5_firstFor 38 = .ok (.dup2, 1) := by decide +kernel
theorem dX5_firstFor_39 : decode cX5_firstFor 39 = .ok (.iaload, 1) := by decide +kernel
theorem dX5_firstFor_40 : decode cX5_firstFor 40 = .ok (.iconst 1, 1) := by decide +kernel
theorem dX5_firstFor_41 : decode cX5_firstFor 41 = .ok (.isub, 1) := by decide +kernel
theorem dX5_firstFor_42 : decode cX5_firstFor 42 = .ok (.iastore, 1) := by decide +kernel
theorem dX5_firstFor_43 : decode cX5_firstFor 43 = .ok (.iconst 1, 1) := by decide +kernel
theorem dX5_firstFor_44 : decode cX5_firstFor 44 = .ok (.aload_n 0, 1) := by decide +kernel
theorem dX5_firstFor_45 : decode cX5_firstFor 45 = .ok (.iload_n 1, 1) := by decide +kernel
theorem dX5_firstFor_46 : decode cX5_firstFor 46 = .ok (.iconst 1, 1) := by decide +kernel
theorem dX5_firstFor_47 : decode cX5_firstFor 47 = .ok (.iadd, 1) := by decide +kernel
theorem dX5_firstFor_48 : decode cX5_firstFor 48 = .ok (.invokevirtual 46, 3) := by decide +kernel
theorem dX5_firstFor_51 : decode cX5_firstFor 51 = .ok (.iadd, 1) := by decide +kernel
theorem dX5_firstFor_52 : decode cX5_firstFor 52 = .ok (.iload_n 2, 1) := by decide +kernel
theorem dX5_firstFor_53 : decode cX5_firstFor 53 = .ok (.if_icmp .ne 5, 3) := by decide +kernel
theorem dX5_firstFor_56 : decode cX5_firstFor 56 = .ok (.iload_n 3, 1) := by decide +kernel
theorem dX5_firstFor_57 : decode cX5_firstFor 57 = .ok (.ireturn, 1) := by decide +kernel
theorem dX5_firstFor_58 : decode cX5_firstFor 58 = .ok (.aload_n 0, 1) := by decide +kernel
theorem dX5_firstFor_59 : decode cX5_firstFor 59 = .ok (.getfield 18, 3) := by decide +kernel
theorem dX5_firstFor_62 : decode cX5_firstFor 62 = .ok (.iload_n 3, 1) := by decide +kernel
theorem dX5_firstFor_63 : decode cX5_firstFor 63 = .ok (.dup2, 1) := by decide +kernel
theorem dX5_firstFor_64 : decode cX5_firstFor 64 = .ok (.iaload, 1) := by decide +kernel
theorem dX5_firstFor_65 : decode cX5_firstFor 65 = .ok (.iconst 1, 1) := by decide +kernel
theorem dX5_firstFor_66 : decode cX5_firstFor 66 = .ok (.iadd, 1) := by decide +kernel
theorem dX5_firstFor_67 : decode cX5_firstFor 67 = .ok (.iastore, 1) := by decide +kernel
theorem dX5_firstFor_68 : decode cX5_firstFor 68 = .ok (.iinc 3 1, 3) := by decide +kernel
theorem dX5_firstFor_71 : decode cX5_firstFor 71 = .ok (.goto (-69), 3) := by decide +kernel
theorem dX5_firstFor_74 : decode cX5_firstFor 74 = .ok (.bipush (-9), 2) := by decide +kernel
theorem dX5_firstFor_76 : decode cX5_firstFor 76 = .ok (.ireturn, 1) := by decide +kernel
theorem dX5_most_0 : decode cX5_most 0 = .ok (.aload_n 0, 1) := by decide +kernel
theorem dX5_most_1 : decode cX5_most 1 = .ok (.getfield 27, 3) := by decide +kernel
theorem dX5_most_4 : decode cX5_most 4 = .ok (.istore_n 2, 1) := by decide +kernel
theorem dX5_most_5 : decode cX5_most 5 = .ok (.iconst 0, 1) := by decide +kernel
theorem dX5_most_6 : decode cX5_most 6 = .ok (.istore_n 3, 1) := by decide +kernel
theorem dX5_most_7 : decode cX5_most 7 = .ok (.iload_n 3, 1) := by decide +kernel
theorem dX5_most_8 : decode cX5_most 8 = .ok (.iconst 1, 1) := by decide +kernel
theorem dX5_most_9 : decode cX5_most 9 = .ok (.aload_n 0, 1) := by decide +kernel
theorem dX5_most_10 : decode cX5_most 10 = .ok (.getfield 31, 3) := by decide +kernel
theorem dX5_most_13 : decode cX5_most 13 = .ok (.ishl, 1) := by decide +kernel
theorem dX5_most_14 : decode cX5_most 14 = .ok (.if_icmp .ge 98, 3) := by decide +kernel
theorem dX5_most_17 : decode cX5_most 17 = .ok (.iconst 0, 1) := by decide +kernel
theorem dX5_most_18 : decode cX5_most 18 = .ok (.istore 4, 2) := by decide +kernel
theorem dX5_most_20 : decode cX5_most 20 = .ok (.iconst 0, 1) := by decide +kernel
theorem dX5_most_21 : decode cX5_most 21 = .ok (.istore 5, 2) := by decide +kernel
theorem dX5_most_23 : decode cX5_most 23 = .ok (.iload 5, 2) := by decide +kernel
theorem dX5_most_25 : decode cX5_most 25 = .ok (.aload_n 0, 1) := by decide +kernel
theorem dX5_most_26 : decode cX5_most 26 = .ok (.getfield 31, 3) := by decide +kernel
theorem dX5_most_29 : decode cX5_most 29 = .ok (.if_icmp .ge 28, 3) := by decide +kernel
theorem dX5_most_32 : decode cX5_most 32 = .ok (.iload 4, 2) := by decide +kernel
theorem dX5_most_34 : decode cX5_most 34 = .ok (.iload_n 3, 1) := by decide +kernel
theorem dX5_most_35 : decode cX5_most 35 = .ok (.iload 5, 2) := by decide +kernel
theorem dX5_most_37 : decode cX5_most 37 = .ok (.ishr, 1) := by decide +kernel
theorem dX5_most_38 : decode cX5_most 38 = .ok (.iconst 1, 1) := by decide +kernel
theorem dX5_most_39 : decode cX5_most 39 = .ok (.iand, 1) := by decide +kernel
theorem dX5_most_40 : decode cX5_most 40 = .ok (.aload_n 0, 1) := by decide +kernel
theorem dX5_most_41 : decode cX5_most 41 = .ok (.getfield 18, 3) := by decide +kernel
theorem dX5_most_44 : decode cX5_most 44 = .ok (.iload 5, 2) := by decide +kernel
theorem dX5_most_46 : decode cX5_most 46 = .ok (.iaload, 1) := by decide +kernel
theorem dX5_most_47 : decode cX5_most 47 = .ok (.imul, 1) := by decide +kernel
theorem dX5_most_48 : decode cX5_most 48 = .ok (.iadd, 1) := by decide +kernel
theorem dX5_most_49 : decode cX5_most 49 = .ok (.istore 4, 2) := by decide +kernel
theorem dX5_most_51 : decode cX5_most 51 = .ok (.iinc 5 1, 3) := by decide +kernel
theorem dX5_most_54 : decode cX5_most 54 = .ok (.goto (-31), 3) := by decide +kernel
theorem dX5_most_57 : decode cX5_most 57 = .ok (.iload_n 1, 1) := by decide +kernel
theorem dX5_most_58 : decode cX5_most 58 = .ok (.istore 5, 2) := by decide +kernel
theorem dX5_most_60 : decode cX5_most 60 = .ok (.iload 5, 2) := by decide +kernel
theorem dX5_most_62 : decode cX5_most 62 = .ok (.aload_n 0, 1) := by decide +kernel
theorem dX5_most_63 : decode cX5_most 63 = .ok (.getfield 27, 3) := by decide +kernel
theorem dX5_most_66 : decode cX5_most 66 = .ok (.if_icmp .ge 33, 3) := by decide +kernel
theorem dX5_most_69 : decode cX5_most 69 = .ok (.iload 4, 2) := by decide +kernel
theorem dX5_most_71 : decode cX5_most 71 = .ok (.aload_n 0, 1) := by decide +kernel
theorem dX5_most_72 : decode cX5_most 72 = .ok (.getfield 15, 3) := by decide +kernel
theorem dX5_most_75 : decode cX5_most 75 = .ok (.iload 5, 2) := by decide +kernel
theorem dX5_most_77 : decode cX5_most 77 = .ok (.iaload, 1) := by decide +kernel
theorem dX5_most_78 : decode cX5_most 78 = .ok (.iload_n 3, 1) := by decide +kernel
theorem dX5_most_79 : decode cX5_most 79 = .ok (.iconst (-1), 1) := by decide +kernel
theorem dX5_most_80 : decode cX5_most 80 = .ok (.ixor, 1) := by decide +kernel
theorem dX5_most_81 : decode cX5_most 81 = .ok (.iand, 1) := by decide +kernel
theorem dX5_most_82 : decode cX5_most 82 = .ok (.ifCond .eq 7, 3) := by decide +kernel
theorem dX5_most_85 : decode cX5_most 85 = .ok (.iconst 1, 1) := by decide +kernel
theorem dX5_most_86 : decode cX5_most 86 = .ok (.goto 4, 3) := by decide +kernel
theorem dX5_most_89 : decode cX5_most 89 = .ok (.iconst 0, 1) := by decide +kernel
theorem dX5_most_90 : decode cX5_most 90 = .ok (.iadd, 1) := by decide +kernel
theorem dX5_most_91 : decode cX5_most 91 = .ok (.istore 4, 2) := by decide +kernel
theorem dX5_most_93 : decode cX5_most 93 = .ok (.iinc 5 1, 3) := by decide +kernel
theorem dX5_most_96 : decode cX5_most 96 = .ok (.goto (-36), 3) := by decide +kernel
theorem dX5_most_99 : decode cX5_most 99 = .ok (.iload_n 2, 1) := by decide +kernel
theorem dX5_most_100 : decode cX5_most 100 = .ok (.iload 4, 2) := by decide +kernel
theorem dX5_most_102 : decode cX5_most 102 = .ok (.invokestatic 54, 3) := by decide +kernel
theorem dX5_most_105 : decode cX5_most 105 = .ok (.istore_n 2, 1) := by decide +kernel
theorem dX5_most_106 : decode cX5_most 106 = .ok (.iinc 3 1, 3) := by decide +kernel
theorem dX5_most_109 : decode cX5_most 109 = .ok (.goto (-102), 3) := by decide +kernel
theorem dX5_most_112 : decode cX5_most 112 = .ok (.iload_n 2, 1) := by decide +kernel
theorem dX5_most_113 : decode cX5_most 113 = .ok (.ireturn, 1) := by decide +kernel
theorem dX6_init_0 : decode cX6_init 0 = .ok (.aload_n 0, 1) := by decide +kernel
theorem dX6_init_1 : decode cX6_init 1 = .ok (.invokespecial 1, 3) := by decide +kernel
theorem dX6_init_4 : decode cX6_init 4 = .ok (.return_, 1) := by decide +kernel
theorem dX6_worth_0 : decode cX6_worth 0 = .ok (.aload_n 1, 1) := by decide +kernel
theorem dX6_worth_1 : decode cX6_worth 1 = .ok (.dup, 1) := by decide +kernel
theorem dX6_worth_2 : decode cX6_worth 2 = .ok (.getfield 7, 3) := by decide +kernel
theorem dX6_worth_5 : decode cX6_worth 5 = .ok (.lconst 1, 1) := by decide +kernel
theorem dX6_worth_6 : decode cX6_worth 6 = .ok (.ladd, 1) := by decide +kernel
theorem dX6_worth_7 : decode cX6_worth 7 = .ok (.putfield 7, 3) := by decide +kernel
theorem dX6_worth_10 : decode cX6_worth 10 = .ok (.aload_n 1, 1) := by decide +kernel
theorem dX6_worth_11 : decode cX6_worth 11 = .ok (.getfield 13, 3) := by decide +kernel
theorem dX6_worth_14 : decode cX6_worth 14 = .ok (.ireturn, 1) := by decide +kernel
theorem dX7_init_0 : decode cX7_init 0 = .ok (.aload_n 0, 1) := by decide +kernel
theorem dX7_init_1 : decode cX7_init 1 = .ok (.invokespecial 3, 3) := by decide +kernel
theorem dX7_init_4 : decode cX7_init 4 = .ok (.aload_n 0, 1) := by decide +kernel
theorem dX7_init_5 : decode cX7_init 5 = .ok (.bipush 6, 2) := by decide +kernel
theorem dX7_init_7 : decode cX7_init 7 = .ok (.newarray .int, 2) := by decide +kernel
theorem dX7_init_9 : decode cX7_init 9 = .ok (.putfield 9, 3) := by decide +kernel
theorem dX7_init_12 : decode cX7_init 12 = .ok (.aload_n 0, 1) := by decide +kernel
theorem dX7_init_13 : decode cX7_init 13 = .ok (.bipush 6, 2) := by decide +kernel
theorem dX7_init_15 : decode cX7_init 15 = .ok (.newarray .int, 2) := by decide +kernel
theorem dX7_init_17 : decode cX7_init 17 = .ok (.putfield 15, 3) := by decide +kernel
theorem dX7_init_20 : decode cX7_init 20 = .ok (.aload_n 0, 1) := by decide +kernel
theorem dX7_init_21 : decode cX7_init 21 = .ok (.bipush 6, 2) := by decide +kernel
theorem dX7_init_23 : decode cX7_init 23 = .ok (.newarray .int, 2) := by decide +kernel
theorem dX7_init_25 : decode cX7_init 25 = .ok (.putfield 18, 3) := by decide +kernel
theorem dX7_init_28 : decode cX7_init 28 = .ok (.aload_n 0, 1) := by decide +kernel
theorem dX7_init_29 : decode cX7_init 29 = .ok (.bipush 6, 2) := by decide +kernel
theorem dX7_init_31 : decode cX7_init 31 = .ok (.newarray .int, 2) := by decide +kernel
theorem dX7_init_33 : decode cX7_init 33 = .ok (.putfield 21, 3) := by decide +kernel
theorem dX7_init_36 : decode cX7_init 36 = .ok (.return_, 1) := by decide +kernel
theorem dX7_become_0 : decode cX7_become 0 = .ok (.aload_n 0, 1) := by decide +kernel
theorem dX7_become_1 : decode cX7_become 1 = .ok (.aload_n 1, 1) := by decide +kernel
theorem dX7_become_2 : decode cX7_become 2 = .ok (.getfield 24, 3) := by decide +kernel
theorem dX7_become_5 : decode cX7_become 5 = .ok (.putfield 24, 3) := by decide +kernel
theorem dX7_become_8 : decode cX7_become 8 = .ok (.aload_n 1, 1) := by decide +kernel
theorem dX7_become_9 : decode cX7_become 9 = .ok (.getfield 9, 3) := by decide +kernel
theorem dX7_become_12 : decode cX7_become 12 = .ok (.iconst 0, 1) := by decide +kernel
theorem dX7_become_13 : decode cX7_become 13 = .ok (.aload_n 0, 1) := by decide +kernel
theorem dX7_become_14 : decode cX7_become 14 = .ok (.getfield 9, 3) := by decide +kernel
theorem dX7_become_17 : decode cX7_become 17 = .ok (.iconst 0, 1) := by decide +kernel
theorem dX7_become_18 : decode cX7_become 18 = .ok (.bipush 6, 2) := by decide +kernel
theorem dX7_become_20 : decode cX7_become 20 = .ok (.invokestatic 28, 3) := by decide +kernel
theorem dX7_become_23 : decode cX7_become 23 = .ok (.aload_n 1, 1) := by decide +kernel
theorem dX7_become_24 : decode cX7_become 24 = .ok (.getfield 15, 3) := by decide +kernel
theorem dX7_become_27 : decode cX7_become 27 = .ok (.iconst 0, 1) := by decide +kernel
theorem dX7_become_28 : decode cX7_become 28 = .ok (.aload_n 0, 1) := by decide +kernel
theorem dX7_become_29 : decode cX7_become 29 = .ok (.getfield 15, 3) := by decide +kernel
theorem dX7_become_32 : decode cX7_become 32 = .ok (.iconst 0, 1) := by decide +kernel
theorem dX7_become_33 : decode cX7_become 33 = .ok (.bipush 6, 2) := by decide +kernel
theorem dX7_become_35 : decode cX7_become 35 = .ok (.invokestatic 28, 3) := by decide +kernel
theorem dX7_become_38 : decode cX7_become 38 = .ok (.aload_n 1, 1) := by decide +kernel
theorem dX7_become_39 : decode cX7_become 39 = .ok (.getfield 18, 3) := by decide +kernel
theorem dX7_become_42 : decode cX7_become 42 = .ok (.iconst 0, 1) := by decide +kernel
theorem dX7_become_43 : decode cX7_become 43 = .ok (.aload_n 0, 1) := by decide +kernel
theorem dX7_become_44 : decode cX7_become 44 = .ok (.getfield 18, 3) := by decide +kernel
theorem dX7_become_47 : decode cX7_become 47 = .ok (.iconst 0, 1) := by decide +kernel
theorem dX7_become_48 : decode cX7_become 48 = .ok (.bipush 6, 2) := by decide +kernel
theorem dX7_become_50 : decode cX7_become 50 = .ok (.invokestatic 28, 3) := by decide +kernel
theorem dX7_become_53 : decode cX7_become 53 = .ok (.aload_n 1, 1) := by decide +kernel
theorem dX7_become_54 : decode cX7_become 54 = .ok (.getfield 21, 3) := by decide +kernel
theorem dX7_become_57 : decode cX7_become 57 = .ok (.iconst 0, 1) := by decide +kernel
theorem dX7_become_58 : decode cX7_become 58 = .ok (.aload_n 0, 1) := by decide +kernel
theorem dX7_become_59 : decode cX7_become 59 = .ok (.getfield 21, 3) := by decide +kernel
theorem dX7_become_62 : decode cX7_become 62 = .ok (.iconst 0, 1) := by decide +kernel
theorem dX7_become_63 : decode cX7_become 63 = .ok (.bipush 6, 2) := by decide +kernel
theorem dX7_become_65 : decode cX7_become 65 = .ok (.invokestatic 28, 3) := by decide +kernel
theorem dX7_become_68 : decode cX7_become 68 = .ok (.return_, 1) := by decide +kernel
theorem dX7_changeSeats_0 : decode cX7_changeSeats 0 = .ok (.aload_n 0, 1) := by decide +kernel
theorem dX7_changeSeats_1 : decode cX7_changeSeats 1 = .ok (.getfield 18, 3) := by decide +kernel
theorem dX7_changeSeats_4 : decode cX7_changeSeats 4 = .ok (.iload_n 1, 1) := by decide +kernel
theorem dX7_changeSeats_5 : decode cX7_changeSeats 5 = .ok (.iaload, 1) := by decide +kernel
theorem dX7_changeSeats_6 : decode cX7_changeSeats 6 = .ok (.istore_n 3, 1) := by decide +kernel
theorem dX7_changeSeats_7 : decode cX7_changeSeats 7 = .ok (.aload_n 0, 1) := by decide +kernel
theorem dX7_changeSeats_8 : decode cX7_changeSeats 8 = .ok (.getfield 18, 3) := by decide +kernel
theorem dX7_changeSeats_11 : decode cX7_changeSeats 11 = .ok (.iload_n 1, 1) := by decide +kernel
theorem dX7_changeSeats_12 : decode cX7_changeSeats 12 = .ok (.aload_n 0, 1) := by decide +kernel
theorem dX7_changeSeats_13 : decode cX7_changeSeats 13 = .ok (.getfield 18, 3) := by decide +kernel
theorem dX7_changeSeats_16 : decode cX7_changeSeats 16 = .ok (.iload_n 2, 1) := by decide +kernel
theorem dX7_changeSeats_17 : decode cX7_changeSeats 17 = .ok (.iaload, 1) := by decide +kernel
theorem dX7_changeSeats_18 : decode cX7_changeSeats 18 = .ok (.iastore, 1) := by decide +kernel
theorem dX7_changeSeats_19 : decode cX7_changeSeats 19 = .ok (.aload_n 0, 1) := by decide +kernel
theorem dX7_changeSeats_20 : decode cX7_changeSeats 20 = .ok (.getfield 18, 3) := by decide +kernel
theorem dX7_changeSeats_23 : decode cX7_changeSeats 23 = .ok (.iload_n 2, 1) := by decide +kernel
theorem dX7_changeSeats_24 : decode cX7_changeSeats 24 = .ok (.iload_n 3, 1) := by decide +kernel
theorem dX7_changeSeats_25 : decode cX7_changeSeats 25 = .ok (.iastore, 1) := by decide +kernel
theorem dX7_changeSeats_26 : decode cX7_changeSeats 26 = .ok (.return_, 1) := by decide +kernel
theorem dX8_init_0 : decode cX8_init 0 = .ok (.aload_n 0, 1) := by decide +kernel
theorem dX8_init_1 : decode cX8_init 1 = .ok (.invokespecial 3, 3) := by decide +kernel
theorem dX8_init_4 : decode cX8_init 4 = .ok (.aload_n 0, 1) := by decide +kernel
theorem dX8_init_5 : decode cX8_init 5 = .ok (.bipush 6, 2) := by decide +kernel
theorem dX8_init_7 : decode cX8_init 7 = .ok (.putfield 9, 3) := by decide +kernel
theorem dX8_init_10 : decode cX8_init 10 = .ok (.aload_n 0, 1) := by decide +kernel
theorem dX8_init_11 : decode cX8_init 11 = .ok (.bipush 6, 2) := by decide +kernel
theorem dX8_init_13 : decode cX8_init 13 = .ok (.newarray .int, 2) := by decide +kernel
theorem dX8_init_15 : decode cX8_init 15 = .ok (.putfield 15, 3) := by decide +kernel
theorem dX8_init_18 : decode cX8_init 18 = .ok (.aload_n 0, 1) := by decide +kernel
theorem dX8_init_19 : decode cX8_init 19 = .ok (.bipush 6, 2) := by decide +kernel
theorem dX8_init_21 : decode cX8_init 21 = .ok (.newarray .int, 2) := by decide +kernel
theorem dX8_init_23 : decode cX8_init 23 = .ok (.putfield 19, 3) := by decide +kernel
theorem dX8_init_26 : decode cX8_init 26 = .ok (.aload_n 0, 1) := by decide +kernel
theorem dX8_init_27 : decode cX8_init 27 = .ok (.bipush 6, 2) := by decide +kernel
theorem dX8_init_29 : decode cX8_init 29 = .ok (.newarray .int, 2) := by decide +kernel
theorem dX8_init_31 : decode cX8_init 31 = .ok (.putfield 22, 3) := by decide +kernel
theorem dX8_init_34 : decode cX8_init 34 = .ok (.aload_n 0, 1) := by decide +kernel
theorem dX8_init_35 : decode cX8_init 35 = .ok (.new 25, 3) := by decide +kernel
theorem dX8_init_38 : decode cX8_init 38 = .ok (.dup, 1) := by decide +kernel
theorem dX8_init_39 : decode cX8_init 39 = .ok (.invokespecial 27, 3) := by decide +kernel
theorem dX8_init_42 : decode cX8_init 42 = .ok (.putfield 28, 3) := by decide +kernel
theorem dX8_init_45 : decode cX8_init 45 = .ok (.aload_n 0, 1) := by decide +kernel
theorem dX8_init_46 : decode cX8_init 46 = .ok (.bipush 9, 2) := by decide +kernel
theorem dX8_init_48 : decode cX8_init 48 = .ok (.newarray .int, 2) := by decide +kernel
theorem dX8_init_50 : decode cX8_init 50 = .ok (.putfield 32, 3) := by decide +kernel
theorem dX8_init_53 : decode cX8_init 53 = .ok (.return_, 1) := by decide +kernel
theorem dX8_empty_0 : decode cX8_empty 0 = .ok (.aload_n 0, 1) := by decide +kernel
theorem dX8_empty_1 : decode cX8_empty 1 = .ok (.bipush 6, 2) := by decide +kernel
theorem dX8_empty_3 : decode cX8_empty 3 = .ok (.putfield 9, 3) := by decide +kernel
theorem dX8_empty_6 : decode cX8_empty 6 = .ok (.aload_n 0, 1) := by decide +kernel
theorem dX8_empty_7 : decode cX8_empty 7 = .ok (.iconst 0, 1) := by decide +kernel
theorem dX8_empty_8 : decode cX8_empty 8 = .ok (.putfield 35, 3) := by decide +kernel
theorem dX8_empty_11 : decode cX8_empty 11 = .ok (.aload_n 0, 1) := by decide +kernel
theorem dX8_empty_12 : decode cX8_empty 12 = .ok (.iconst 0, 1) := by decide +kernel
theorem dX8_empty_13 : decode cX8_empty 13 = .ok (.putfield 38, 3) := by decide +kernel
theorem dX8_empty_16 : decode cX8_empty 16 = .ok (.return_, 1) := by decide +kernel
theorem dX8_around_0 : decode cX8_around 0 = .ok (.aload_n 0, 1) := by decide +kernel
theorem dX8_around_1 : decode cX8_around 1 = .ok (.getfield 9, 3) := by decide +kernel
theorem dX8_around_4 : decode cX8_around 4 = .ok (.ifCond .le 14, 3) := by decide +kernel
theorem dX8_around_7 : decode cX8_around 7 = .ok (.iload_n 1, 1) := by decide +kernel
theorem dX8_around_8 : decode cX8_around 8 = .ok (.aload_n 0, 1) := by decide +kernel
theorem dX8_around_9 : decode cX8_around 9 = .ok (.getfield 9, 3) := by decide +kernel
theorem dX8_around_12 : decode cX8_around 12 = .ok (.invokestatic 41, 3) := by decide +kernel
theorem dX8_around_15 : decode cX8_around 15 = .ok (.goto 4, 3) := by decide +kernel
theorem dX8_around_18 : decode cX8_around 18 = .ok (.iconst 0, 1) := by decide +kernel
theorem dX8_around_19 : decode cX8_around 19 = .ok (.ireturn, 1) := by decide +kernel
theorem dX8_seatBefore_0 : decode cX8_seatBefore 0 = .ok (.aload_n 0, 1) := by decide +kernel
theorem dX8_seatBefore_1 : decode cX8_seatBefore 1 = .ok (.aload_n 1, 1) := by decide +kernel
theorem dX8_seatBefore_2 : decode cX8_seatBefore 2 = .ok (.getfield 47, 3) := by decide +kernel
theorem dX8_seatBefore_5 : decode cX8_seatBefore 5 = .ok (.iload_n 2, 1) := by decide +kernel
theorem dX8_seatBefore_6 : decode cX8_seatBefore 6 = .ok (.iaload, 1) := by decide +kernel
theorem dX8_seatBefore_7 : decode cX8_seatBefore 7 = .ok (.aload_n 1, 1) := by decide +kernel
theorem dX8_seatBefore_8 : decode cX8_seatBefore 8 = .ok (.getfield 50, 3) := by decide +kernel
theorem dX8_seatBefore_11 : decode cX8_seatBefore 11 = .ok (.iadd, 1) := by decide +kernel
theorem dX8_seatBefore_12 : decode cX8_seatBefore 12 = .ok (.invokevirtual 53, 3) := by decide +kernel
theorem dX8_seatBefore_15 : decode cX8_seatBefore 15 = .ok (.ireturn, 1) := by decide +kernel
theorem dX8_gap_0 : decode cX8_gap 0 = .ok (.aload_n 0, 1) := by decide +kernel
theorem dX8_gap_1 : decode cX8_gap 1 = .ok (.aload_n 1, 1) := by decide +kernel
theorem dX8_gap_2 : decode cX8_gap 2 = .ok (.getfield 57, 3) := by decide +kernel
theorem dX8_gap_5 : decode cX8_gap 5 = .ok (.iload_n 2, 1) := by decide +kernel
theorem dX8_gap_6 : decode cX8_gap 6 = .ok (.iaload, 1) := by decide +kernel
theorem dX8_gap_7 : decode cX8_gap 7 = .ok (.aload_n 1, 1) := by decide +kernel
theorem dX8_gap_8 : decode cX8_gap 8 = .ok (.getfield 47, 3) := by decide +kernel
theorem dX8_gap_11 : decode cX8_gap 11 = .ok (.iload_n 3, 1) := by decide +kernel
theorem dX8_gap_12 : decode cX8_gap 12 = .ok (.iaload, 1) := by decide +kernel
theorem dX8_gap_13 : decode cX8_gap 13 = .ok (.isub, 1) := by decide +kernel
theorem dX8_gap_14 : decode cX8_gap 14 = .ok (.iload 4, 2) := by decide +kernel
theorem dX8_gap_16 : decode cX8_gap 16 = .ok (.isub, 1) := by decide +kernel
theorem dX8_gap_17 : decode cX8_gap 17 = .ok (.invokevirtual 53, 3) := by decide +kernel
theorem dX8_gap_20 : decode cX8_gap 20 = .ok (.ireturn, 1) := by decide +kernel
theorem dX8_reaches_0 : decode cX8_reaches 0 = .ok (.aload_n 0, 1) := by decide +kernel
theorem dX8_reaches_1 : decode cX8_reaches 1 = .ok (.aload_n 1, 1) := by decide +kernel
theorem dX8_reaches_2 : decode cX8_reaches 2 = .ok (.iload_n 2, 1) := by decide +kernel
theorem dX8_reaches_3 : decode cX8_reaches 3 = .ok (.iload_n 3, 1) := by decide +kernel
theorem dX8_reaches_4 : decode cX8_reaches 4 = .ok (.iload 4, 2) := by decide +kernel
theorem dX8_reaches_6 : decode cX8_reaches 6 = .ok (.invokevirtual 60, 3) := by decide +kernel
theorem dX8_reaches_9 : decode cX8_reaches 9 = .ok (.istore 5, 2) := by decide +kernel
theorem dX8_reaches_11 : decode cX8_reaches 11 = .ok (.iload 5, 2) := by decide +kernel
theorem dX8_reaches_13 : decode cX8_reaches 13 = .ok (.aload_n 0, 1) := by decide +kernel
theorem dX8_reaches_14 : decode cX8_reaches 14 = .ok (.getfield 15, 3) := by decide +kernel
theorem dX8_reaches_17 : decode cX8_reaches 17 = .ok (.iload_n 2, 1) := by decide +kernel
theorem dX8_reaches_18 : decode cX8_reaches 18 = .ok (.iaload, 1) := by decide +kernel
theorem dX8_reaches_19 : decode cX8_reaches 19 = .ok (.if_icmp .le 19, 3) := by decide +kernel
theorem dX8_reaches_22 : decode cX8_reaches 22 = .ok (.aload_n 0, 1) := by decide +kernel
theorem dX8_reaches_23 : decode cX8_reaches 23 = .ok (.getfield 9, 3) := by decide +kernel
theorem dX8_reaches_26 : decode cX8_reaches 26 = .ok (.iload 5, 2) := by decide +kernel
theorem dX8_reaches_28 : decode cX8_reaches 28 = .ok (.isub, 1) := by decide +kernel
theorem dX8_reaches_29 : decode cX8_reaches 29 = .ok (.aload_n 0, 1) := by decide +kernel
theorem dX8_reaches_30 : decode cX8_reaches 30 = .ok (.getfield 15, 3) := by decide +kernel
theorem dX8_reaches_33 : decode cX8_reaches 33 = .ok (.iload_n 2, 1) := by decide +kernel
theorem dX8_reaches_34 : decode cX8_reaches 34 = .ok (.iaload, 1) := by decide +kernel
theorem dX8_reaches_35 : decode cX8_reaches 35 = .ok (.if_icmp .gt 7, 3) := by decide +kernel
theorem dX8_reaches_38 : decode cX8_reaches 38 = .ok (.iconst 1, 1) := by decide +kernel
theorem dX8_reaches_39 : decode cX8_reaches 39 = .ok (.goto 4, 3) := by decide +kernel
theorem dX8_reaches_42 : decode cX8_reaches 42 = .ok (.iconst 0, 1) := by decide +kernel
theorem dX8_reaches_43 : decode cX8_reaches 43 = .ok (.ireturn, 1) := by decide +kernel
theorem dX8_stepsBy_0 : decode cX8_stepsBy 0 = .ok (.aload_n 0, 1) := by decide +kernel
theorem dX8_stepsBy_1 : decode cX8_stepsBy 1 = .ok (.aload_n 1, 1) := by decide +kernel
theorem dX8_stepsBy_2 : decode cX8_stepsBy 2 = .ok (.iload_n 2, 1) := by decide +kernel
theorem dX8_stepsBy_3 : decode cX8_stepsBy 3 = .ok (.iload_n 3, 1) := by decide +kernel
theorem dX8_stepsBy_4 : decode cX8_stepsBy 4 = .ok (.aload_n 1, 1) := by decide +kernel
theorem dX8_stepsBy_5 : decode cX8_stepsBy 5 = .ok (.getfield 50, 3) := by decide +kernel
theorem dX8_stepsBy_8 : decode cX8_stepsBy 8 = .ok (.invokevirtual 60, 3) := by decide +kernel
theorem dX8_stepsBy_11 : decode cX8_stepsBy 11 = .ok (.istore 5, 2) := by decide +kernel
theorem dX8_stepsBy_13 : decode cX8_stepsBy 13 = .ok (.iload 5, 2) := by decide +kernel
theorem dX8_stepsBy_15 : decode cX8_stepsBy 15 = .ok (.aload_n 0, 1) := by decide +kernel
theorem dX8_stepsBy_16 : decode cX8_stepsBy 16 = .ok (.getfield 15, 3) := by decide +kernel
theorem dX8_stepsBy_19 : decode cX8_stepsBy 19 = .ok (.iload_n 2, 1) := by decide +kernel
theorem dX8_stepsBy_20 : decode cX8_stepsBy 20 = .ok (.iaload, 1) := by decide +kernel
theorem dX8_stepsBy_21 : decode cX8_stepsBy 21 = .ok (.isub, 1) := by decide +kernel
theorem dX8_stepsBy_22 : decode cX8_stepsBy 22 = .ok (.istore 6, 2) := by decide +kernel
theorem dX8_stepsBy_24 : decode cX8_stepsBy 24 = .ok (.aload_n 0, 1) := by decide +kernel
theorem dX8_stepsBy_25 : decode cX8_stepsBy 25 = .ok (.getfield 9, 3) := by decide +kernel
theorem dX8_stepsBy_28 : decode cX8_stepsBy 28 = .ok (.iload 5, 2) := by decide +kernel
theorem dX8_stepsBy_30 : decode cX8_stepsBy 30 = .ok (.isub, 1) := by decide +kernel
theorem dX8_stepsBy_31 : decode cX8_stepsBy 31 = .ok (.aload_n 0, 1) := by decide +kernel
theorem dX8_stepsBy_32 : decode cX8_stepsBy 32 = .ok (.getfield 15, 3) := by decide +kernel
theorem dX8_stepsBy_35 : decode cX8_stepsBy 35 = .ok (.iload_n 2, 1) := by decide +kernel
theorem dX8_stepsBy_36 : decode cX8_stepsBy 36 = .ok (.iaload, 1) := by decide +kernel
theorem dX8_stepsBy_37 : decode cX8_stepsBy 37 = .ok (.isub, 1) := by decide +kernel
theorem dX8_stepsBy_38 : decode cX8_stepsBy 38 = .ok (.istore 7, 2) := by decide +kernel
theorem dX8_stepsBy_40 : decode cX8_stepsBy 40 = .ok (.iload 6, 2) := by decide +kernel
theorem dX8_stepsBy_42 : decode cX8_stepsBy 42 = .ok (.ifCond .le 8, 3) := by decide +kernel
theorem dX8_stepsBy_45 : decode cX8_stepsBy 45 = .ok (.iload 7, 2) := by decide +kernel
theorem dX8_stepsBy_47 : decode cX8_stepsBy 47 = .ok (.ifCond .gt 5, 3) := by decide +kernel
theorem dX8_stepsBy_50 : decode cX8_stepsBy 50 = .ok (.iconst 0, 1) := by decide +kernel
theorem dX8_stepsBy_51 : decode cX8_stepsBy 51 = .ok (.ireturn, 1) := by decide +kernel
theorem dX8_stepsBy_52 : decode cX8_stepsBy 52 = .ok (.iload 4, 2) := by decide +kernel
theorem dX8_stepsBy_54 : decode cX8_stepsBy 54 = .ok (.ifCond .ne 8, 3) := by decide +kernel
theorem dX8_stepsBy_57 : decode cX8_stepsBy 57 = .ok (.iload 6, 2) := by decide +kernel
theorem dX8_stepsBy_59 : decode cX8_stepsBy 59 = .ok (.goto 5, 3) := by decide +kernel
theorem dX8_stepsBy_62 : decode cX8_stepsBy 62 = .ok (.iload 7, 2) := by decide +kernel
theorem dX8_stepsBy_64 : decode cX8_stepsBy 64 = .ok (.ireturn, 1) := by decide +kernel
theorem dX8_reachedBy_0 : decode cX8_reachedBy 0 = .ok (.iconst 0, 1) := by decide +kernel
theorem dX8_reachedBy_1 : decode cX8_reachedBy 1 = .ok (.istore_n 3, 1) := by decide +kernel
theorem dX8_reachedBy_2 : decode cX8_reachedBy 2 = .ok (.iconst 0, 1) := by decide +kernel
theorem dX8_reachedBy_3 : decode cX8_reachedBy 3 = .ok (.istore 4, 2) := by decide +kernel
theorem dX8_reachedBy_5 : decode cX8_reachedBy 5 = .ok (.iload 4, 2) := by decide +kernel
theorem dX8_reachedBy_7 : decode cX8_reachedBy 7 = .ok (.aload_n 0, 1) := by decide +kernel
theorem dX8_reachedBy_8 : decode cX8_reachedBy 8 = .ok (.getfield 38, 3) := by decide +kernel
theorem dX8_reachedBy_11 : decode cX8_reachedBy 11 = .ok (.if_icmp .ge 31, 3) := by decide +kernel
theorem dX8_reachedBy_14 : decode cX8_reachedBy 14 = .ok (.aload_n 0, 1) := by decide +kernel
theorem dX8_reachedBy_15 : decode cX8_reachedBy 15 = .ok (.aload_n 1, 1) := by decide +kernel
theorem dX8_reachedBy_16 : decode cX8_reachedBy 16 = .ok (.iload_n 2, 1) := by decide +kernel
theorem dX8_reachedBy_17 : decode cX8_reachedBy 17 = .ok (.iload 4, 2) := by decide +kernel
theorem dX8_reachedBy_19 : decode cX8_reachedBy 19 = .ok (.aload_n 1, 1) := by decide +kernel
theorem dX8_reachedBy_20 : decode cX8_reachedBy 20 = .ok (.getfield 50, 3) := by decide +kernel
theorem dX8_reachedBy_23 : decode cX8_reachedBy 23 = .ok (.invokevirtual 64, 3) := by decide +kernel
theorem dX8_reachedBy_26 : decode cX8_reachedBy 26 = .ok (.ifCond .eq 10, 3) := by decide +kernel
theorem dX8_reachedBy_29 : decode cX8_reachedBy 29 = .ok (.iload_n 3, 1) := by decide +kernel
theorem dX8_reachedBy_30 : decode cX8_reachedBy 30 = .ok (.iconst 1, 1) := by decide +kernel
theorem dX8_reachedBy_31 : decode cX8_reachedBy 31 = .ok (.iload 4, 2) := by decide +kernel
theorem dX8_reachedBy_33 : decode cX8_reachedBy 33 = .ok (.ishl, 1) := by decide +kernel
theorem dX8_reachedBy_34 : decode cX8_reachedBy 34 = .ok (.ior, 1) := by decide +kernel
theorem dX8_reachedBy_35 : decode cX8_reachedBy 35 = .ok (.istore_n 3, 1) := by decide +kernel
theorem dX8_reachedBy_36 : decode cX8_reachedBy 36 = .ok (.iinc 4 1, 3) := by decide +kernel
theorem dX8_reachedBy_39 : decode cX8_reachedBy 39 = .ok (.goto (-34), 3) := by decide +kernel
theorem dX8_reachedBy_42 : decode cX8_reachedBy 42 = .ok (.iload_n 3, 1) := by decide +kernel
theorem dX8_reachedBy_43 : decode cX8_reachedBy 43 = .ok (.ireturn, 1) := by decide +kernel
theorem dX8_whoReach_0 : decode cX8_whoReach 0 = .ok (.iconst 0, 1) := by decide +kernel
theorem dX8_whoReach_1 : decode cX8_whoReach 1 = .ok (.istore 4, 2) := by decide +kernel
theorem dX8_whoReach_3 : decode cX8_whoReach 3 = .ok (.iconst 0, 1) := by decide +kernel
theorem dX8_whoReach_4 : decode cX8_whoReach 4 = .ok (.istore 5, 2) := by decide +kernel
theorem dX8_whoReach_6 : decode cX8_whoReach 6 = .ok (.iload 5, 2) := by decide +kernel
theorem dX8_whoReach_8 : decode cX8_whoReach 8 = .ok (.aload_n 0, 1) := by decide +kernel
theorem dX8_whoReach_9 : decode cX8_whoReach 9 = .ok (.getfield 35, 3) := by decide +kernel
theorem dX8_whoReach_12 : decode cX8_whoReach 12 = .ok (.if_icmp .ge 30, 3) := by decide +kernel
theorem dX8_whoReach_15 : decode cX8_whoReach 15 = .ok (.aload_n 0, 1) := by decide +kernel
theorem dX8_whoReach_16 : decode cX8_whoReach 16 = .ok (.aload_n 1, 1) := by decide +kernel
theorem dX8_whoReach_17 : decode cX8_whoReach 17 = .ok (.iload 5, 2) := by decide +kernel
theorem dX8_whoReach_19 : decode cX8_whoReach 19 = .ok (.iload_n 2, 1) := by decide +kernel
theorem dX8_whoReach_20 : decode cX8_whoReach 20 = .ok (.iload_n 3, 1) := by decide +kernel
theorem dX8_whoReach_21 : decode cX8_whoReach 21 = .ok (.invokevirtual 64, 3) := by decide +kernel
theorem dX8_whoReach_24 : decode cX8_whoReach 24 = .ok (.ifCond .eq 12, 3) := by decide +kernel
theorem dX8_whoReach_27 : decode cX8_whoReach 27 = .ok (.iload 4, 2) := by decide +kernel
theorem dX8_whoReach_29 : decode cX8_whoReach 29 = .ok (.iconst 1, 1) := by decide +kernel
theorem dX8_whoReach_30 : decode cX8_whoReach 30 = .ok (.iload 5, 2) := by decide +kernel
theorem dX8_whoReach_32 : decode cX8_whoReach 32 = .ok (.ishl, 1) := by decide +kernel
theorem dX8_whoReach_33 : decode cX8_whoReach 33 = .ok (.ior, 1) := by decide +kernel
theorem dX8_whoReach_34 : decode cX8_whoReach 34 = .ok (.istore 4, 2) := by decide +kernel
theorem dX8_whoReach_36 : decode cX8_whoReach 36 = .ok (.iinc 5 1, 3) := by decide +kernel
theorem dX8_whoReach_39 : decode cX8_whoReach 39 = .ok (.goto (-33), 3) := by decide +kernel
theorem dX8_whoReach_42 : decode cX8_whoReach 42 = .ok (.iload 4, 2) := by decide +kernel
theorem dX8_whoReach_44 : decode cX8_whoReach 44 = .ok (.ireturn, 1) := by decide +kernel
theorem dX8_needs_0 : decode cX8_needs 0 = .ok (.iconst 1, 1) := by decide +kernel
theorem dX8_needs_1 : decode cX8_needs 1 = .ok (.aload_n 0, 1) := by decide +kernel
theorem dX8_needs_2 : decode cX8_needs 2 = .ok (.getfield 38, 3) := by decide +kernel
theorem dX8_needs_5 : decode cX8_needs 5 = .ok (.ishl, 1) := by decide +kernel
theorem dX8_needs_6 : decode cX8_needs 6 = .ok (.iconst 1, 1) := by decide +kernel
theorem dX8_needs_7 : decode cX8_needs 7 = .ok (.isub, 1) := by decide +kernel
theorem dX8_needs_8 : decode cX8_needs 8 = .ok (.istore_n 3, 1) := by decide +kernel
theorem dX8_needs_9 : decode cX8_needs 9 = .ok (.aload_n 0, 1) := by decide +kernel
theorem dX8_needs_10 : decode cX8_needs 10 = .ok (.getfield 19, 3) := by decide +kernel
theorem dX8_needs_13 : decode cX8_needs 13 = .ok (.iload_n 2, 1) := by decide +kernel
theorem dX8_needs_14 : decode cX8_needs 14 = .ok (.iaload, 1) := by decide +kernel
theorem dX8_needs_15 : decode cX8_needs 15 = .ok (.iload_n 3, 1) := by decide +kernel
theorem dX8_needs_16 : decode cX8_needs 16 = .ok (.iand, 1) := by decide +kernel
theorem dX8_needs_17 : decode cX8_needs 17 = .ok (.aload_n 1, 1) := by decide +kernel
theorem dX8_needs_18 : decode cX8_needs 18 = .ok (.getfield 68, 3) := by decide +kernel
theorem dX8_needs_21 : decode cX8_needs 21 = .ok (.iload_n 2, 1) := by decide +kernel
theorem dX8_needs_22 : decode cX8_needs 22 = .ok (.iaload, 1) := by decide +kernel
theorem dX8_needs_23 : decode cX8_needs 23 = .ok (.iconst (-1), 1) := by decide +kernel
theorem dX8_needs_24 : decode cX8_needs 24 = .ok (.ixor, 1) := by decide +kernel
theorem dX8_needs_25 : decode cX8_needs 25 = .ok (.iand, 1) := by decide +kernel
theorem dX8_needs_26 : decode cX8_needs 26 = .ok (.ireturn, 1) := by decide +kernel
theorem dX8_hasEnough_0 : decode cX8_hasEnough 0 = .ok (.iconst 0, 1) := by decide +kernel
theorem dX8_hasEnough_1 : decode cX8_hasEnough 1 = .ok (.istore_n 3, 1) := by decide +kernel
theorem dX8_hasEnough_2 : decode cX8_hasEnough 2 = .ok (.iconst 0, 1) := by decide +kernel
theorem dX8_hasEnough_3 : decode cX8_hasEnough 3 = .ok (.istore 4, 2) := by decide +kernel
theorem dX8_hasEnough_5 : decode cX8_hasEnough 5 = .ok (.iload 4, 2) := by decide +kernel
theorem dX8_hasEnough_7 : decode cX8_hasEnough 7 = .ok (.aload_n 0, 1) := by decide +kernel
theorem dX8_hasEnough_8 : decode cX8_hasEnough 8 = .ok (.getfield 35, 3) := by decide +kernel
theorem dX8_hasEnough_11 : decode cX8_hasEnough 11 = .ok (.if_icmp .ge 23, 3) := by decide +kernel
theorem dX8_hasEnough_14 : decode cX8_hasEnough 14 = .ok (.iload_n 3, 1) := by decide +kernel
theorem dX8_hasEnough_15 : decode cX8_hasEnough 15 = .ok (.aload_n 0, 1) := by decide +kernel
theorem dX8_hasEnough_16 : decode cX8_hasEnough 16 = .ok (.aload_n 1, 1) := by decide +kernel
theorem dX8_hasEnough_17 : decode cX8_hasEnough 17 = .ok (.iload 4, 2) := by decide +kernel
theorem dX8_hasEnough_19 : decode cX8_hasEnough 19 = .ok (.invokevirtual 71, 3) := by decide +kernel
theorem dX8_hasEnough_22 : decode cX8_hasEnough 22 = .ok (.iload_n 2, 1) := by decide +kernel
theorem dX8_hasEnough_23 : decode cX8_hasEnough 23 = .ok (.ishr, 1) := by decide +kernel
theorem dX8_hasEnough_24 : decode cX8_hasEnough 24 = .ok (.iconst 1, 1) := by decide +kernel
theorem dX8_hasEnough_25 : decode cX8_hasEnough 25 = .ok (.iand, 1) := by decide +kernel
theorem dX8_hasEnough_26 : decode cX8_hasEnough 26 = .ok (.iadd, 1) := by decide +kernel
theorem dX8_hasEnough_27 : decode cX8_hasEnough 27 = .ok (.istore_n 3, 1) := by decide +kernel
theorem dX8_hasEnough_28 : decode cX8_hasEnough 28 = .ok (.iinc 4 1, 3) := by decide +kernel
theorem dX8_hasEnough_31 : decode cX8_hasEnough 31 = .ok (.goto (-26), 3) := by decide +kernel
theorem dX8_hasEnough_34 : decode cX8_hasEnough 34 = .ok (.iload_n 3, 1) := by decide +kernel
theorem dX8_hasEnough_35 : decode cX8_hasEnough 35 = .ok (.aload_n 1, 1) := by decide +kernel
theorem dX8_hasEnough_36 : decode cX8_hasEnough 36 = .ok (.getfield 75, 3) := by decide +kernel
theorem dX8_hasEnough_39 : decode cX8_hasEnough 39 = .ok (.iload_n 2, 1) := by decide +kernel
theorem dX8_hasEnough_40 : decode cX8_hasEnough 40 = .ok (.iaload, 1) := by decide +kernel
theorem dX8_hasEnough_41 : decode cX8_hasEnough 41 = .ok (.if_icmp .gt 7, 3) := by decide +kernel
theorem dX8_hasEnough_44 : decode cX8_hasEnough 44 = .ok (.iconst 1, 1) := by decide +kernel
theorem dX8_hasEnough_45 : decode cX8_hasEnough 45 = .ok (.goto 4, 3) := by decide +kernel
theorem dX8_hasEnough_48 : decode cX8_hasEnough 48 = .ok (.iconst 0, 1) := by decide +kernel
theorem dX8_hasEnough_49 : decode cX8_hasEnough 49 = .ok (.ireturn, 1) := by decide +kernel
theorem dX8_tour_0 : decode cX8_tour 0 = .ok (.iconst 0, 1) := by decide +kernel
theorem dX8_tour_1 : decode cX8_tour 1 = .ok (.istore_n 2, 1) := by decide +kernel
theorem dX8_tour_2 : decode cX8_tour 2 = .ok (.iload_n 2, 1) := by decide +kernel
theorem dX8_tour_3 : decode cX8_tour 3 = .ok (.aload_n 0, 1) := by decide +kernel
theorem dX8_tour_4 : decode cX8_tour 4 = .ok (.getfield 38, 3) := by decide +kernel
theorem dX8_tour_7 : decode cX8_tour 7 = .ok (.if_icmp .ge 21, 3) := by decide +kernel
theorem dX8_tour_10 : decode cX8_tour 10 = .ok (.aload_n 0, 1) := by decide +kernel
theorem dX8_tour_11 : decode cX8_tour 11 = .ok (.aload_n 1, 1) := by decide +kernel
theorem dX8_tour_12 : decode cX8_tour 12 = .ok (.iload_n 2, 1) := by decide +kernel
theorem dX8_tour_13 : decode cX8_tour 13 = .ok (.invokevirtual 78, 3) := by decide +kernel
theorem dX8_tour_16 : decode cX8_tour 16 = .ok (.ifCond .ne 6, 3) := by decide +kernel
theorem dX8_tour_19 : decode cX8_tour 19 = .ok (.bipush (-9), 2) := by decide +kernel
theorem dX8_tour_21 : decode cX8_tour 21 = .ok (.ireturn, 1) := by decide +kernel
theorem dX8_tour_22 : decode cX8_tour 22 = .ok (.iinc 2 1, 3) := by decide +kernel
theorem dX8_tour_25 : decode cX8_tour 25 = .ok (.goto (-23), 3) := by decide +kernel
theorem dX8_tour_28 : decode cX8_tour 28 = .ok (.aload_n 0, 1) := by decide +kernel
theorem dX8_tour_29 : decode cX8_tour 29 = .ok (.aload_n 1, 1) := by decide +kernel
theorem dX8_tour_30 : decode cX8_tour 30 = .ok (.invokevirtual 82, 3) := by decide +kernel
theorem dX8_tour_33 : decode cX8_tour 33 = .ok (.aload_n 0, 1) := by decide +kernel
theorem dX8_tour_34 : decode cX8_tour 34 = .ok (.getfield 9, 3) := by decide +kernel
theorem dX8_tour_37 : decode cX8_tour 37 = .ok (.iconst 1, 1) := by decide +kernel
theorem dX8_tour_38 : decode cX8_tour 38 = .ok (.isub, 1) := by decide +kernel
theorem dX8_tour_39 : decode cX8_tour 39 = .ok (.istore_n 2, 1) := by decide +kernel
theorem dX8_tour_40 : decode cX8_tour 40 = .ok (.iconst 0, 1) := by decide +kernel
theorem dX8_tour_41 : decode cX8_tour 41 = .ok (.istore_n 3, 1) := by decide +kernel
theorem dX8_tour_42 : decode cX8_tour 42 = .ok (.aload_n 0, 1) := by decide +kernel
theorem dX8_tour_43 : decode cX8_tour 43 = .ok (.getfield 9, 3) := by decide +kernel
theorem dX8_tour_46 : decode cX8_tour 46 = .ok (.iconst 1, 1) := by decide +kernel
theorem dX8_tour_47 : decode cX8_tour 47 = .ok (.isub, 1) := by decide +kernel
theorem dX8_tour_48 : decode cX8_tour 48 = .ok (.istore 4, 2) := by decide +kernel
theorem dX8_tour_50 : decode cX8_tour 50 = .ok (.iload 4, 2) := by decide +kernel
theorem dX8_tour_52 : decode cX8_tour 52 = .ok (.ifCond .lt 37, 3) := by decide +kernel
theorem dX8_tour_55 : decode cX8_tour 55 = .ok (.iload_n 2, 1) := by decide +kernel
theorem dX8_tour_56 : decode cX8_tour 56 = .ok (.iload 4, 2) := by decide +kernel
theorem dX8_tour_58 : decode cX8_tour 58 = .ok (.iload_n 3, 1) := by decide +kernel
theorem dX8_tour_59 : decode cX8_tour 59 = .ok (.iadd, 1) := by decide +kernel
theorem dX8_tour_60 : decode cX8_tour 60 = .ok (.iload 4, 2) := by decide +kernel
theorem dX8_tour_62 : decode cX8_tour 62 = .ok (.iload_n 3, 1) := by decide +kernel
theorem dX8_tour_63 : decode cX8_tour 63 = .ok (.invokestatic 86, 3) := by decide +kernel
theorem dX8_tour_66 : decode cX8_tour 66 = .ok (.iadd, 1) := by decide +kernel
theorem dX8_tour_67 : decode cX8_tour 67 = .ok (.invokestatic 86, 3) := by decide +kernel
theorem dX8_tour_70 : decode cX8_tour 70 = .ok (.istore_n 2, 1) := by decide +kernel
theorem dX8_tour_71 : decode cX8_tour 71 = .ok (.iload_n 3, 1) := by decide +kernel
theorem dX8_tour_72 : decode cX8_tour 72 = .ok (.aload_n 0, 1) := by decide +kernel
theorem dX8_tour_73 : decode cX8_tour 73 = .ok (.getfield 32, 3) := by decide +kernel
theorem dX8_tour_76 : decode cX8_tour 76 = .ok (.iload 4, 2) := by decide +kernel
theorem dX8_tour_78 : decode cX8_tour 78 = .ok (.iaload, 1) := by decide +kernel
theorem dX8_tour_79 : decode cX8_tour 79 = .ok (.invokestatic 89, 3) := by decide +kernel
theorem dX8_tour_82 : decode cX8_tour 82 = .ok (.istore_n 3, 1) := by decide +kernel
theorem dX8_tour_83 : decode cX8_tour 83 = .ok (.iinc 4 (-1), 3) := by decide +kernel
theorem dX8_tour_86 : decode cX8_tour 86 = .ok (.goto (-36), 3) := by decide +kernel
theorem dX8_tour_89 : decode cX8_tour 89 = .ok (.iload_n 2, 1) := by decide +kernel
theorem dX8_tour_90 : decode cX8_tour 90 = .ok (.ireturn, 1) := by decide +kernel
theorem dX8_fillFurthest_0 : decode cX8_fillFurthest 0 = .ok (.aload_n 0, 1) := by decide +kernel
theorem dX8_fillFurthest_1 : decode cX8_fillFurthest 1 = .ok (.getfield 32, 3) := by decide +kernel
theorem dX8_fillFurthest_4 : decode cX8_fillFurthest 4 = .ok (.iconst 0, 1) := by decide +kernel
theorem dX8_fillFurthest_5 : decode cX8_fillFurthest 5 = .ok (.invokestatic 92, 3) := by decide +kernel
theorem dX8_fillFurthest_8 : decode cX8_fillFurthest 8 = .ok (.iconst 0, 1) := by decide +kernel
theorem dX8_fillFurthest_9 : decode cX8_fillFurthest 9 = .ok (.istore_n 2, 1) := by decide +kernel
theorem dX8_fillFurthest_10 : decode cX8_fillFurthest 10 = .ok (.iload_n 2, 1) := by decide +kernel
theorem dX8_fillFurthest_11 : decode cX8_fillFurthest 11 = .ok (.aload_n 0, 1) := by decide +kernel
theorem dX8_fillFurthest_12 : decode cX8_fillFurthest 12 = .ok (.getfield 35, 3) := by decide +kernel
theorem dX8_fillFurthest_15 : decode cX8_fillFurthest 15 = .ok (.if_icmp .ge 81, 3) := by decide +kernel
theorem dX8_fillFurthest_18 : decode cX8_fillFurthest 18 = .ok (.aload_n 0, 1) := by decide +kernel
theorem dX8_fillFurthest_19 : decode cX8_fillFurthest 19 = .ok (.aload_n 1, 1) := by decide +kernel
theorem dX8_fillFurthest_20 : decode cX8_fillFurthest 20 = .ok (.iload_n 2, 1) := by decide +kernel
theorem dX8_fillFurthest_21 : decode cX8_fillFurthest 21 = .ok (.invokevirtual 71, 3) := by decide +kernel
theorem dX8_fillFurthest_24 : decode cX8_fillFurthest 24 = .ok (.istore_n 3, 1) := by decide +kernel
theorem dX8_fillFurthest_25 : decode cX8_fillFurthest 25 = .ok (.iconst 0, 1) := by decide +kernel
theorem dX8_fillFurthest_26 : decode cX8_fillFurthest 26 = .ok (.istore 4, 2) := by decide +kernel
theorem dX8_fillFurthest_28 : decode cX8_fillFurthest 28 = .ok (.iload 4, 2) := by decide +kernel
theorem dX8_fillFurthest_30 : decode cX8_fillFurthest 30 = .ok (.aload_n 0, 1) := by decide +kernel
theorem dX8_fillFurthest_31 : decode cX8_fillFurthest 31 = .ok (.getfield 38, 3) := by decide +kernel
theorem dX8_fillFurthest_34 : decode cX8_fillFurthest 34 = .ok (.if_icmp .ge 56, 3) := by decide +kernel
theorem dX8_fillFurthest_37 : decode cX8_fillFurthest 37 = .ok (.iload_n 3, 1) := by decide +kernel
theorem dX8_fillFurthest_38 : decode cX8_fillFurthest 38 = .ok (.iload 4, 2) := by decide +kernel
theorem dX8_fillFurthest_40 : decode cX8_fillFurthest 40 = .ok (.ishr, 1) := by decide +kernel
theorem dX8_fillFurthest_41 : decode cX8_fillFurthest 41 = .ok (.iconst 1, 1) := by decide +kernel
theorem dX8_fillFurthest_42 : decode cX8_fillFurthest 42 = .ok (.iand, 1) := by decide +kernel
theorem dX8_fillFurthest_43 : decode cX8_fillFurthest 43 = .ok (.iconst 1, 1) := by decide +kernel
theorem dX8_fillFurthest_44 : decode cX8_fillFurthest 44 = .ok (.if_icmp .ne 40, 3) := by decide +kernel
theorem dX8_fillFurthest_47 : decode cX8_fillFurthest 47 = .ok (.aload_n 0, 1) := by decide +kernel
theorem dX8_fillFurthest_48 : decode cX8_fillFurthest 48 = .ok (.aload_n 1, 1) := by decide +kernel
theorem dX8_fillFurthest_49 : decode cX8_fillFurthest 49 = .ok (.iload_n 2, 1) := by decide +kernel
theorem dX8_fillFurthest_50 : decode cX8_fillFurthest 50 = .ok (.iload 4, 2) := by decide +kernel
theorem dX8_fillFurthest_52 : decode cX8_fillFurthest 52 = .ok (.iconst 1, 1) := by decide +kernel
theorem dX8_fillFurthest_53 : decode cX8_fillFurthest 53 = .ok (.invokevirtual 98, 3) := by decide +kernel
theorem dX8_fillFurthest_56 : decode cX8_fillFurthest 56 = .ok (.istore 5, 2) := by decide +kernel
theorem dX8_fillFurthest_58 : decode cX8_fillFurthest 58 = .ok (.aload_n 0, 1) := by decide +kernel
theorem dX8_fillFurthest_59 : decode cX8_fillFurthest 59 = .ok (.getfield 32, 3) := by decide +kernel
theorem dX8_fillFurthest_62 : decode cX8_fillFurthest 62 = .ok (.iload 5, 2) := by decide +kernel
theorem dX8_fillFurthest_64 : decode cX8_fillFurthest 64 = .ok (.aload_n 0, 1) := by decide +kernel
theorem dX8_fillFurthest_65 : decode cX8_fillFurthest 65 = .ok (.getfield 32, 3) := by decide +kernel
theorem dX8_fillFurthest_68 : decode cX8_fillFurthest 68 = .ok (.iload 5, 2) := by decide +kernel
theorem dX8_fillFurthest_70 : decode cX8_fillFurthest 70 = .ok (.iaload, 1) := by decide +kernel
theorem dX8_fillFurthest_71 : decode cX8_fillFurthest 71 = .ok (.aload_n 0, 1) := by decide +kernel
theorem dX8_fillFurthest_72 : decode cX8_fillFurthest 72 = .ok (.aload_n 1, 1) := by decide +kernel
theorem dX8_fillFurthest_73 : decode cX8_fillFurthest 73 = .ok (.iload_n 2, 1) := by decide +kernel
theorem dX8_fillFurthest_74 : decode cX8_fillFurthest 74 = .ok (.iload 4, 2) := by decide +kernel
theorem dX8_fillFurthest_76 : decode cX8_fillFurthest 76 = .ok (.iconst 0, 1) := by decide +kernel
theorem dX8_fillFurthest_77 : decode cX8_fillFurthest 77 = .ok (.invokevirtual 98, 3) := by decide +kernel
theorem dX8_fillFurthest_80 : decode cX8_fillFurthest 80 = .ok (.invokestatic 89, 3) := by decide +kernel
theorem dX8_fillFurthest_83 : decode cX8_fillFurthest 83 = .ok (.iastore, 1) := by decide +kernel
theorem dX8_fillFurthest_84 : decode cX8_fillFurthest 84 = .ok (.iinc 4 1, 3) := by decide +kernel
theorem dX8_fillFurthest_87 : decode cX8_fillFurthest 87 = .ok (.goto (-59), 3) := by decide +kernel
theorem dX8_fillFurthest_90 : decode cX8_fillFurthest 90 = .ok (.iinc 2 1, 3) := by decide +kernel
theorem dX8_fillFurthest_93 : decode cX8_fillFurthest 93 = .ok (.goto (-83), 3) := by decide +kernel
theorem dX8_fillFurthest_96 : decode cX8_fillFurthest 96 = .ok (.return_, 1) := by decide +kernel
theorem dX9_init_0 : decode cX9_init 0 = .ok (.aload_n 0, 1) := by decide +kernel
theorem dX9_init_1 : decode cX9_init 1 = .ok (.invokespecial 3, 3) := by decide +kernel
theorem dX9_init_4 : decode cX9_init 4 = .ok (.aload_n 0, 1) := by decide +kernel
theorem dX9_init_5 : decode cX9_init 5 = .ok (.sipush 140, 3) := by decide +kernel
theorem dX9_init_8 : decode cX9_init 8 = .ok (.newarray .char, 2) := by decide +kernel
theorem dX9_init_10 : decode cX9_init 10 = .ok (.putfield 9, 3) := by decide +kernel
theorem dX9_init_13 : decode cX9_init 13 = .ok (.aload_n 0, 1) := by decide +kernel
theorem dX9_init_14 : decode cX9_init 14 = .ok (.new 15, 3) := by decide +kernel
theorem dX9_init_17 : decode cX9_init 17 = .ok (.dup, 1) := by decide +kernel
theorem dX9_init_18 : decode cX9_init 18 = .ok (.invokespecial 17, 3) := by decide +kernel
theorem dX9_init_21 : decode cX9_init 21 = .ok (.putfield 18, 3) := by decide +kernel
theorem dX9_init_24 : decode cX9_init 24 = .ok (.return_, 1) := by decide +kernel
theorem dX9_read_0 : decode cX9_read 0 = .ok (.aload_n 0, 1) := by decide +kernel
theorem dX9_read_1 : decode cX9_read 1 = .ok (.getfield 18, 3) := by decide +kernel
theorem dX9_read_4 : decode cX9_read 4 = .ok (.invokevirtual 22, 3) := by decide +kernel
theorem dX9_read_7 : decode cX9_read 7 = .ok (.aload_n 0, 1) := by decide +kernel
theorem dX9_read_8 : decode cX9_read 8 = .ok (.iconst 0, 1) := by decide +kernel
theorem dX9_read_9 : decode cX9_read 9 = .ok (.putfield 25, 3) := by decide +kernel
theorem dX9_read_12 : decode cX9_read 12 = .ok (.aload_n 0, 1) := by decide +kernel
theorem dX9_read_13 : decode cX9_read 13 = .ok (.invokevirtual 29, 3) := by decide +kernel
theorem dX9_read_16 : decode cX9_read 16 = .ok (.iconst 0, 1) := by decide +kernel
theorem dX9_read_17 : decode cX9_read 17 = .ok (.istore_n 1, 1) := by decide +kernel
theorem dX9_read_18 : decode cX9_read 18 = .ok (.aload_n 0, 1) := by decide +kernel
theorem dX9_read_19 : decode cX9_read 19 = .ok (.getfield 32, 3) := by decide +kernel
theorem dX9_read_22 : decode cX9_read 22 = .ok (.ifCond .eq 40, 3) := by decide +kernel
theorem dX9_read_25 : decode cX9_read 25 = .ok (.iload_n 1, 1) := by decide +kernel
theorem dX9_read_26 : decode cX9_read 26 = .ok (.sipush 140, 3) := by decide +kernel
theorem dX9_read_29 : decode cX9_read 29 = .ok (.if_icmp .ge 33, 3) := by decide +kernel
theorem dX9_read_32 : decode cX9_read 32 = .ok (.aload_n 0, 1) := by decide +kernel
theorem dX9_read_33 : decode cX9_read 33 = .ok (.iload_n 1, 1) := by decide +kernel
theorem dX9_read_34 : decode cX9_read 34 = .ok (.ifCond .ne 7, 3) := by decide +kernel
theorem dX9_read_37 : decode cX9_read 37 = .ok (.iconst 1, 1) := by decide +kernel
theorem dX9_read_38 : decode cX9_read 38 = .ok (.goto 4, 3) := by decide +kernel
theorem dX9_read_41 : decode cX9_read 41 = .ok (.iconst 0, 1) := by decide +kernel
theorem dX9_read_42 : decode cX9_read 42 = .ok (.invokevirtual 35, 3) := by decide +kernel
theorem dX9_read_45 : decode cX9_read 45 = .ok (.ifCond .ne 11, 3) := by decide +kernel
theorem dX9_read_48 : decode cX9_read 48 = .ok (.bipush (-10), 2) := by decide +kernel
theorem dX9_read_50 : decode cX9_read 50 = .ok (.aload_n 0, 1) := by decide +kernel
theorem dX9_read_51 : decode cX9_read 51 = .ok (.getfield 39, 3) := by decide +kernel
theorem dX9_read_54 : decode cX9_read 54 = .ok (.isub, 1) := by decide +kernel
theorem dX9_read_55 : decode cX9_read 55 = .ok (.ireturn, 1) := by decide +kernel
theorem dX9_read_56 : decode cX9_read 56 = .ok (.iinc 1 1, 3) := by decide +kernel
theorem dX9_read_59 : decode cX9_read 59 = .ok (.goto (-41), 3) := by decide +kernel
theorem dX9_read_62 : decode cX9_read 62 = .ok (.iload_n 1, 1) := by decide +kernel
theorem dX9_read_63 : decode cX9_read 63 = .ok (.ireturn, 1) := by decide +kernel
theorem dX9_handOver_0 : decode cX9_handOver 0 = .ok (.aload_n 0, 1) := by decide +kernel
theorem dX9_handOver_1 : decode cX9_handOver 1 = .ok (.getfield 18, 3) := by decide +kernel
theorem dX9_handOver_4 : decode cX9_handOver 4 = .ok (.astore_n 2, 1) := by decide +kernel
theorem dX9_handOver_5 : decode cX9_handOver 5 = .ok (.aload_n 0, 1) := by decide +kernel
theorem dX9_handOver_6 : decode cX9_handOver 6 = .ok (.aload_n 1, 1) := by decide +kernel
theorem dX9_handOver_7 : decode cX9_handOver 7 = .ok (.putfield 18, 3) := by decide +kernel
theorem dX9_handOver_10 : decode cX9_handOver 10 = .ok (.aload_n 2, 1) := by decide +kernel
theorem dX9_handOver_11 : decode cX9_handOver 11 = .ok (.areturn, 1) := by decide +kernel
theorem dX9_readItem_0 : decode cX9_readItem 0 = .ok (.aload_n 0, 1) := by decide +kernel
theorem dX9_readItem_1 : decode cX9_readItem 1 = .ok (.bipush 110, 2) := by decide +kernel
theorem dX9_readItem_3 : decode cX9_readItem 3 = .ok (.invokevirtual 42, 3) := by decide +kernel
theorem dX9_readItem_6 : decode cX9_readItem 6 = .ok (.ifCond .eq 20, 3) := by decide +kernel
theorem dX9_readItem_9 : decode cX9_readItem 9 = .ok (.iload_n 1, 1) := by decide +kernel
theorem dX9_readItem_10 : decode cX9_readItem 10 = .ok (.ifCond .eq 14, 3) := by decide +kernel
theorem dX9_readItem_13 : decode cX9_readItem 13 = .ok (.aload_n 0, 1) := by decide +kernel
theorem dX9_readItem_14 : decode cX9_readItem 14 = .ok (.invokevirtual 46, 3) := by decide +kernel
theorem dX9_readItem_17 : decode cX9_readItem 17 = .ok (.ifCond .eq 7, 3) := by decide +kernel
theorem dX9_readItem_20 : decode cX9_readItem 20 = .ok (.iconst 1, 1) := by decide +kernel
theorem dX9_readItem_21 : decode cX9_readItem 21 = .ok (.goto 4, 3) := by decide +kernel
theorem dX9_readItem_24 : decode cX9_readItem 24 = .ok (.iconst 0, 1) := by decide +kernel
theorem dX9_readItem_25 : decode cX9_readItem 25 = .ok (.ireturn, 1) := by decide +kernel
theorem dX9_readItem_26 : decode cX9_readItem 26 = .ok (.aload_n 0, 1) := by decide +kernel
theorem dX9_readItem_27 : decode cX9_readItem 27 = .ok (.bipush 103, 2) := by decide +kernel
theorem dX9_readItem_29 : decode cX9_readItem 29 = .ok (.invokevirtual 42, 3) := by decide +kernel
theorem dX9_readItem_32 : decode cX9_readItem 32 = .ok (.ifCond .eq 28, 3) := by decide +kernel
theorem dX9_readItem_35 : decode cX9_readItem 35 = .ok (.aload_n 0, 1) := by decide +kernel
theorem dX9_readItem_36 : decode cX9_readItem 36 = .ok (.getfield 18, 3) := by decide +kernel
theorem dX9_readItem_39 : decode cX9_readItem 39 = .ok (.getfield 50, 3) := by decide +kernel
theorem dX9_readItem_42 : decode cX9_readItem 42 = .ok (.bipush 6, 2) := by decide +kernel
theorem dX9_readItem_44 : decode cX9_readItem 44 = .ok (.if_icmp .ge 14, 3) := by decide +kernel
theorem dX9_readItem_47 : decode cX9_readItem 47 = .ok (.aload_n 0, 1) := by decide +kernel
theorem dX9_readItem_48 : decode cX9_readItem 48 = .ok (.invokevirtual 53, 3) := by decide +kernel
theorem dX9_readItem_51 : decode cX9_readItem 51 = .ok (.ifCond .eq 7, 3) := by decide +kernel
theorem dX9_readItem_54 : decode cX9_readItem 54 = .ok (.iconst 1, 1) := by decide +kernel
theorem dX9_readItem_55 : decode cX9_readItem 55 = .ok (.goto 4, 3) := by decide +kernel
theorem dX9_readItem_58 : decode cX9_readItem 58 = .ok (.iconst 0, 1) := by decide +kernel
theorem dX9_readItem_59 : decode cX9_readItem 59 = .ok (.ireturn, 1) := by decide +kernel
theorem dX9_readItem_60 : decode cX9_readItem 60 = .ok (.aload_n 0, 1) := by decide +kernel
theorem dX9_readItem_61 : decode cX9_readItem 61 = .ok (.bipush 100, 2) := by decide +kernel
theorem dX9_readItem_63 : decode cX9_readItem 63 = .ok (.invokevirtual 42, 3) := by decide +kernel
theorem dX9_readItem_66 : decode cX9_readItem 66 = .ok (.ifCond .eq 26, 3) := by decide +kernel
theorem dX9_readItem_69 : decode cX9_readItem 69 = .ok (.aload_n 0, 1) := by decide +kernel
theorem dX9_readItem_70 : decode cX9_readItem 70 = .ok (.getfield 18, 3) := by decide +kernel
theorem dX9_readItem_73 : decode cX9_readItem 73 = .ok (.getfield 56, 3) := by decide +kernel
theorem dX9_readItem_76 : decode cX9_readItem 76 = .ok (.bipush 6, 2) := by decide +kernel
theorem dX9_readItem_78 : decode cX9_readItem 78 = .ok (.if_icmp .ge 14, 3) := by decide +kernel
theorem dX9_readItem_81 : decode cX9_readItem 81 = .ok (.aload_n 0, 1) := by decide +kernel
theorem dX9_readItem_82 : decode cX9_readItem 82 = .ok (.invokevirtual 59, 3) := by decide +kernel
theorem dX9_readItem_85 : decode cX9_readItem 85 = .ok (.ifCond .eq 7, 3) := by decide +kernel
theorem dX9_readItem_88 : decode cX9_readItem 88 = .ok (.iconst 1, 1) := by decide +kernel
theorem dX9_readItem_89 : decode cX9_readItem 89 = .ok (.goto 4, 3) := by decide +kernel
theorem dX9_readItem_92 : decode cX9_readItem 92 = .ok (.iconst 0, 1) := by decide +kernel
theorem dX9_readItem_93 : decode cX9_readItem 93 = .ok (.ireturn, 1) := by decide +kernel
theorem dX9_readSeats_0 : decode cX9_readSeats 0 = .ok (.aload_n 0, 1) := by decide +kernel
theorem dX9_readSeats_1 : decode cX9_readSeats 1 = .ok (.iconst 3, 1) := by decide +kernel
theorem dX9_readSeats_2 : decode cX9_readSeats 2 = .ok (.bipush 9, 2) := by decide +kernel
theorem dX9_readSeats_4 : decode cX9_readSeats 4 = .ok (.invokevirtual 62, 3) := by decide +kernel
theorem dX9_readSeats_7 : decode cX9_readSeats 7 = .ok (.ifCond .ne 5, 3) := by decide +kernel
theorem dX9_readSeats_10 : decode cX9_readSeats 10 = .ok (.iconst 0, 1) := by decide +kernel
theorem dX9_readSeats_11 : decode cX9_readSeats 11 = .ok (.ireturn, 1) := by decide +kernel
theorem dX9_readSeats_12 : decode cX9_readSeats 12 = .ok (.aload_n 0, 1) := by decide +kernel
theorem dX9_readSeats_13 : decode cX9_readSeats 13 = .ok (.getfield 18, 3) := by decide +kernel
theorem dX9_readSeats_16 : decode cX9_readSeats 16 = .ok (.aload_n 0, 1) := by decide +kernel
theorem dX9_readSeats_17 : decode cX9_readSeats 17 = .ok (.getfield 66, 3) := by decide +kernel
theorem dX9_readSeats_20 : decode cX9_readSeats 20 = .ok (.putfield 69, 3) := by decide +kernel
theorem dX9_readSeats_23 : decode cX9_readSeats 23 = .ok (.aload_n 0, 1) := by decide +kernel
theorem dX9_readSeats_24 : decode cX9_readSeats 24 = .ok (.invokevirtual 72, 3) := by decide +kernel
theorem dX9_readSeats_27 : decode cX9_readSeats 27 = .ok (.ireturn, 1) := by decide +kernel
theorem dX9_readGuest_0 : decode cX9_readGuest 0 = .ok (.aload_n 0, 1) := by decide +kernel
theorem dX9_readGuest_1 : decode cX9_readGuest 1 = .ok (.getfield 18, 3) := by decide +kernel
theorem dX9_readGuest_4 : decode cX9_readGuest 4 = .ok (.getfield 50, 3) := by decide +kernel
theorem dX9_readGuest_7 : decode cX9_readGuest 7 = .ok (.istore_n 1, 1) := by decide +kernel
theorem dX9_readGuest_8 : decode cX9_readGuest 8 = .ok (.aload_n 0, 1) := by decide +kernel
theorem dX9_readGuest_9 : decode cX9_readGuest 9 = .ok (.iconst 0, 1) := by decide +kernel
theorem dX9_readGuest_10 : decode cX9_readGuest 10 = .ok (.aload_n 0, 1) := by decide +kernel
theorem dX9_readGuest_11 : decode cX9_readGuest 11 = .ok (.getfield 18, 3) := by decide +kernel
theorem dX9_readGuest_14 : decode cX9_readGuest 14 = .ok (.getfield 69, 3) := by decide +kernel
theorem dX9_readGuest_17 : decode cX9_readGuest 17 = .ok (.iconst 1, 1) := by decide +kernel
theorem dX9_readGuest_18 : decode cX9_readGuest 18 = .ok (.isub, 1) := by decide +kernel
theorem dX9_readGuest_19 : decode cX9_readGuest 19 = .ok (.invokevirtual 62, 3) := by decide +kernel
theorem dX9_readGuest_22 : decode cX9_readGuest 22 = .ok (.ifCond .eq 21, 3) := by decide +kernel
theorem dX9_readGuest_25 : decode cX9_readGuest 25 = .ok (.aload_n 0, 1) := by decide +kernel
theorem dX9_readGuest_26 : decode cX9_readGuest 26 = .ok (.aload_n 0, 1) := by decide +kernel
theorem dX9_readGuest_27 : decode cX9_readGuest 27 = .ok (.getfield 18, 3) := by decide +kernel
theorem dX9_readGuest_30 : decode cX9_readGuest 30 = .ok (.getfield 75, 3) := by decide +kernel
theorem dX9_readGuest_33 : decode cX9_readGuest 33 = .ok (.getfield 78, 3) := by decide +kernel
theorem dX9_readGuest_36 : decode cX9_readGuest 36 = .ok (.iload_n 1, 1) := by decide +kernel
theorem dX9_readGuest_37 : decode cX9_readGuest 37 = .ok (.invokevirtual 84, 3) := by decide +kernel
theorem dX9_readGuest_40 : decode cX9_readGuest 40 = .ok (.ifCond .eq 5, 3) := by decide +kernel
theorem dX9_readGuest_43 : decode cX9_readGuest 43 = .ok (.iconst 0, 1) := by decide +kernel
theorem dX9_readGuest_44 : decode cX9_readGuest 44 = .ok (.ireturn, 1) := by decide +kernel
theorem dX9_readGuest_45 : decode cX9_readGuest 45 = .ok (.aload_n 0, 1) := by decide +kernel
theorem dX9_readGuest_46 : decode cX9_readGuest 46 = .ok (.getfield 18, 3) := by decide +kernel
theorem dX9_readGuest_49 : decode cX9_readGuest 49 = .ok (.getfield 75, 3) := by decide +kernel
theorem dX9_readGuest_52 : decode cX9_readGuest 52 = .ok (.getfield 78, 3) := by decide +kernel
theorem dX9_readGuest_55 : decode cX9_readGuest 55 = .ok (.iload_n 1, 1) := by decide +kernel
theorem dX9_readGuest_56 : decode cX9_readGuest 56 = .ok (.aload_n 0, 1) := by decide +kernel
theorem dX9_readGuest_57 : decode cX9_readGuest 57 = .ok (.getfield 66, 3) := by decide +kernel
theorem dX9_readGuest_60 : decode cX9_readGuest 60 = .ok (.iastore, 1) := by decide +kernel
theorem dX9_readGuest_61 : decode cX9_readGuest 61 = .ok (.aload_n 0, 1) := by decide +kernel
theorem dX9_readGuest_62 : decode cX9_readGuest 62 = .ok (.iconst 0, 1) := by decide +kernel
theorem dX9_readGuest_63 : decode cX9_readGuest 63 = .ok (.iconst 2, 1) := by decide +kernel
theorem dX9_readGuest_64 : decode cX9_readGuest 64 = .ok (.invokevirtual 62, 3) := by decide +kernel
theorem dX9_readGuest_67 : decode cX9_readGuest 67 = .ok (.ifCond .ne 5, 3) := by decide +kernel
theorem dX9_readGuest_70 : decode cX9_readGuest 70 = .ok (.iconst 0, 1) := by decide +kernel
theorem dX9_readGuest_71 : decode cX9_readGuest 71 = .ok (.ireturn, 1) := by decide +kernel
theorem dX9_readGuest_72 : decode cX9_readGuest 72 = .ok (.aload_n 0, 1) := by decide +kernel
theorem dX9_readGuest_73 : decode cX9_readGuest 73 = .ok (.getfield 18, 3) := by decide +kernel
theorem dX9_readGuest_76 : decode cX9_readGuest 76 = .ok (.getfield 88, 3) := by decide +kernel
theorem dX9_readGuest_79 : decode cX9_readGuest 79 = .ok (.iload_n 1, 1) := by decide +kernel
theorem dX9_readGuest_80 : decode cX9_readGuest 80 = .ok (.aload_n 0, 1) := by decide +kernel
theorem dX9_readGuest_81 : decode cX9_readGuest 81 = .ok (.getfield 66, 3) := by decide +kernel
theorem dX9_readGuest_84 : decode cX9_readGuest 84 = .ok (.iastore, 1) := by decide +kernel
theorem dX9_readGuest_85 : decode cX9_readGuest 85 = .ok (.aload_n 0, 1) := by decide +kernel
theorem dX9_readGuest_86 : decode cX9_readGuest 86 = .ok (.invokevirtual 91, 3) := by decide +kernel
theorem dX9_readGuest_89 : decode cX9_readGuest 89 = .ok (.ifCond .ne 5, 3) := by decide +kernel
theorem dX9_readGuest_92 : decode cX9_readGuest 92 = .ok (.iconst 0, 1) := by decide +kernel
theorem dX9_readGuest_93 : decode cX9_readGuest 93 = .ok (.ireturn, 1) := by decide +kernel
theorem dX9_readGuest_94 : decode cX9_readGuest 94 = .ok (.aload_n 0, 1) := by decide +kernel
theorem dX9_readGuest_95 : decode cX9_readGuest 95 = .ok (.getfield 18, 3) := by decide +kernel
theorem dX9_readGuest_98 : decode cX9_readGuest 98 = .ok (.getfield 94, 3) := by decide +kernel
theorem dX9_readGuest_101 : decode cX9_readGuest 101 = .ok (.iload_n 1, 1) := by decide +kernel
theorem dX9_readGuest_102 : decode cX9_readGuest 102 = .ok (.aload_n 0, 1) := by decide +kernel
theorem dX9_readGuest_103 : decode cX9_readGuest 103 = .ok (.getfield 66, 3) := by decide +kernel
theorem dX9_readGuest_106 : decode cX9_readGuest 106 = .ok (.iastore, 1) := by decide +kernel
theorem dX9_readGuest_107 : decode cX9_readGuest 107 = .ok (.aload_n 0, 1) := by decide +kernel
theorem dX9_readGuest_108 : decode cX9_readGuest 108 = .ok (.getfield 18, 3) := by decide +kernel
theorem dX9_readGuest_111 : decode cX9_readGuest 111 = .ok (.dup, 1) := by decide +kernel
theorem dX9_readGuest_112 : decode cX9_readGuest 112 = .ok (.getfield 50, 3) := by decide +kernel
theorem dX9_readGuest_115 : decode cX9_readGuest 115 = .ok (.iconst 1, 1) := by decide +kernel
theorem dX9_readGuest_116 : decode cX9_readGuest 116 = .ok (.iadd, 1) := by decide +kernel
theorem dX9_readGuest_117 : decode cX9_readGuest 117 = .ok (.putfield 50, 3) := by decide +kernel
theorem dX9_readGuest_120 : decode cX9_readGuest 120 = .ok (.aload_n 0, 1) := by decide +kernel
theorem dX9_readGuest_121 : decode cX9_readGuest 121 = .ok (.invokevirtual 72, 3) := by decide +kernel
theorem dX9_readGuest_124 : decode cX9_readGuest 124 = .ok (.ireturn, 1) := by decide +kernel
theorem dX9_readDish_0 : decode cX9_readDish 0 = .ok (.aload_n 0, 1) := by decide +kernel
theorem dX9_readDish_1 : decode cX9_readDish 1 = .ok (.getfield 18, 3) := by decide +kernel
theorem dX9_readDish_4 : decode cX9_readDish 4 = .ok (.getfield 56, 3) := by decide +kernel
theorem dX9_readDish_7 : decode cX9_readDish 7 = .ok (.istore_n 1, 1) := by decide +kernel
theorem dX9_readDish_8 : decode cX9_readDish 8 = .ok (.aload_n 0, 1) := by decide +kernel
theorem dX9_readDish_9 : decode cX9_readDish 9 = .ok (.iconst 0, 1) := by decide +kernel
theorem dX9_readDish_10 : decode cX9_readDish 10 = .ok (.aload_n 0, 1) := by decide +kernel
theorem dX9_readDish_11 : decode cX9_readDish 11 = .ok (.getfield 18, 3) := by decide +kernel
theorem dX9_readDish_14 : decode cX9_readDish 14 = .ok (.getfield 69, 3) := by decide +kernel
theorem dX9_readDish_17 : decode cX9_readDish 17 = .ok (.iconst 1, 1) := by decide +kernel
theorem dX9_readDish_18 : decode cX9_readDish 18 = .ok (.isub, 1) := by decide +kernel
theorem dX9_readDish_19 : decode cX9_readDish 19 = .ok (.invokevirtual 62, 3) := by decide +kernel
theorem dX9_readDish_22 : decode cX9_readDish 22 = .ok (.ifCond .eq 21, 3) := by decide +kernel
theorem dX9_readDish_25 : decode cX9_readDish 25 = .ok (.aload_n 0, 1) := by decide +kernel
theorem dX9_readDish_26 : decode cX9_readDish 26 = .ok (.aload_n 0, 1) := by decide +kernel
theorem dX9_readDish_27 : decode cX9_readDish 27 = .ok (.getfield 18, 3) := by decide +kernel
theorem dX9_readDish_30 : decode cX9_readDish 30 = .ok (.getfield 75, 3) := by decide +kernel
theorem dX9_readDish_33 : decode cX9_readDish 33 = .ok (.getfield 97, 3) := by decide +kernel
theorem dX9_readDish_36 : decode cX9_readDish 36 = .ok (.iload_n 1, 1) := by decide +kernel
theorem dX9_readDish_37 : decode cX9_readDish 37 = .ok (.invokevirtual 84, 3) := by decide +kernel
theorem dX9_readDish_40 : decode cX9_readDish 40 = .ok (.ifCond .eq 5, 3) := by decide +kernel
theorem dX9_readDish_43 : decode cX9_readDish 43 = .ok (.iconst 0, 1) := by decide +kernel
theorem dX9_readDish_44 : decode cX9_readDish 44 = .ok (.ireturn, 1) := by decide +kernel
theorem dX9_readDish_45 : decode cX9_readDish 45 = .ok (.aload_n 0, 1) := by decide +kernel
theorem dX9_readDish_46 : decode cX9_readDish 46 = .ok (.getfield 18, 3) := by decide +kernel
theorem dX9_readDish_49 : decode cX9_readDish 49 = .ok (.getfield 75, 3) := by decide +kernel
theorem dX9_readDish_52 : decode cX9_readDish 52 = .ok (.getfield 97, 3) := by decide +kernel
theorem dX9_readDish_55 : decode cX9_readDish 55 = .ok (.iload_n 1, 1) := by decide +kernel
theorem dX9_readDish_56 : decode cX9_readDish 56 = .ok (.aload_n 0, 1) := by decide +kernel
theorem dX9_readDish_57 : decode cX9_readDish 57 = .ok (.getfield 66, 3) := by decide +kernel
theorem dX9_readDish_60 : decode cX9_readDish 60 = .ok (.iastore, 1) := by decide +kernel
theorem dX9_readDish_61 : decode cX9_readDish 61 = .ok (.aload_n 0, 1) := by decide +kernel
theorem dX9_readDish_62 : decode cX9_readDish 62 = .ok (.iconst 1, 1) := by decide +kernel
theorem dX9_readDish_63 : decode cX9_readDish 63 = .ok (.bipush 9, 2) := by decide +kernel
theorem dX9_readDish_65 : decode cX9_readDish 65 = .ok (.invokevirtual 62, 3) := by decide +kernel
theorem dX9_readDish_68 : decode cX9_readDish 68 = .ok (.ifCond .ne 5, 3) := by decide +kernel
theorem dX9_readDish_71 : decode cX9_readDish 71 = .ok (.iconst 0, 1) := by decide +kernel
theorem dX9_readDish_72 : decode cX9_readDish 72 = .ok (.ireturn, 1) := by decide +kernel
theorem dX9_readDish_73 : decode cX9_readDish 73 = .ok (.aload_n 0, 1) := by decide +kernel
theorem dX9_readDish_74 : decode cX9_readDish 74 = .ok (.getfield 18, 3) := by decide +kernel
theorem dX9_readDish_77 : decode cX9_readDish 77 = .ok (.getfield 75, 3) := by decide +kernel
theorem dX9_readDish_80 : decode cX9_readDish 80 = .ok (.getfield 100, 3) := by decide +kernel
theorem dX9_readDish_83 : decode cX9_readDish 83 = .ok (.iload_n 1, 1) := by decide +kernel
theorem dX9_readDish_84 : decode cX9_readDish 84 = .ok (.aload_n 0, 1) := by decide +kernel
theorem dX9_readDish_85 : decode cX9_readDish 85 = .ok (.getfield 66, 3) := by decide +kernel
theorem dX9_readDish_88 : decode cX9_readDish 88 = .ok (.iastore, 1) := by decide +kernel
theorem dX9_readDish_89 : decode cX9_readDish 89 = .ok (.aload_n 0, 1) := by decide +kernel
theorem dX9_readDish_90 : decode cX9_readDish 90 = .ok (.iconst 0, 1) := by decide +kernel
theorem dX9_readDish_91 : decode cX9_readDish 91 = .ok (.iconst 1, 1) := by decide +kernel
theorem dX9_readDish_92 : decode cX9_readDish 92 = .ok (.invokevirtual 62, 3) := by decide +kernel
theorem dX9_readDish_95 : decode cX9_readDish 95 = .ok (.ifCond .ne 5, 3) := by decide +kernel
theorem dX9_readDish_98 : decode cX9_readDish 98 = .ok (.iconst 0, 1) := by decide +kernel
theorem dX9_readDish_99 : decode cX9_readDish 99 = .ok (.ireturn, 1) := by decide +kernel
theorem dX9_readDish_100 : decode cX9_readDish 100 = .ok (.aload_n 0, 1) := by decide +kernel
theorem dX9_readDish_101 : decode cX9_readDish 101 = .ok (.getfield 18, 3) := by decide +kernel
theorem dX9_readDish_104 : decode cX9_readDish 104 = .ok (.getfield 103, 3) := by decide +kernel
theorem dX9_readDish_107 : decode cX9_readDish 107 = .ok (.iload_n 1, 1) := by decide +kernel
theorem dX9_readDish_108 : decode cX9_readDish 108 = .ok (.aload_n 0, 1) := by decide +kernel
theorem dX9_readDish_109 : decode cX9_readDish 109 = .ok (.getfield 66, 3) := by decide +kernel
theorem dX9_readDish_112 : decode cX9_readDish 112 = .ok (.iastore, 1) := by decide +kernel
theorem dX9_readDish_113 : decode cX9_readDish 113 = .ok (.aload_n 0, 1) := by decide +kernel
theorem dX9_readDish_114 : decode cX9_readDish 114 = .ok (.getfield 18, 3) := by decide +kernel
theorem dX9_readDish_117 : decode cX9_readDish 117 = .ok (.dup, 1) := by decide +kernel
theorem dX9_readDish_118 : decode cX9_readDish 118 = .ok (.getfield 56, 3) := by decide +kernel
theorem dX9_readDish_121 : decode cX9_readDish 121 = .ok (.iconst 1, 1) := by decide +kernel
theorem dX9_readDish_122 : decode cX9_readDish 122 = .ok (.iadd, 1) := by decide +kernel
theorem dX9_readDish_123 : decode cX9_readDish 123 = .ok (.putfield 56, 3) := by decide +kernel
theorem dX9_readDish_126 : decode cX9_readDish 126 = .ok (.aload_n 0, 1) := by decide +kernel
theorem dX9_readDish_127 : decode cX9_readDish 127 = .ok (.invokevirtual 72, 3) := by decide +kernel
theorem dX9_readDish_130 : decode cX9_readDish 130 = .ok (.ireturn, 1) := by decide +kernel
theorem dX9_isAmong_0 : decode cX9_isAmong 0 = .ok (.iconst 0, 1) := by decide +kernel
theorem dX9_isAmong_1 : decode cX9_isAmong 1 = .ok (.istore_n 3, 1) := by decide +kernel
theorem dX9_isAmong_2 : decode cX9_isAmong 2 = .ok (.iload_n 3, 1) := by decide +kernel
theorem dX9_isAmong_3 : decode cX9_isAmong 3 = .ok (.iload_n 2, 1) := by decide +kernel
theorem dX9_isAmong_4 : decode cX9_isAmong 4 = .ok (.if_icmp .ge 27, 3) := by decide +kernel
theorem dX9_isAmong_7 : decode cX9_isAmong 7 = .ok (.iload_n 3, 1) := by decide +kernel
theorem dX9_isAmong_8 : decode cX9_isAmong 8 = .ok (.aload_n 1, 1) := by decide +kernel
theorem dX9_isAmong_9 : decode cX9_isAmong 9 = .ok (.arraylength, 1) := by decide +kernel
theorem dX9_isAmong_10 : decode cX9_isAmong 10 = .ok (.if_icmp .ge 21, 3) := by decide +kernel
theorem dX9_isAmong_13 : decode cX9_isAmong 13 = .ok (.aload_n 1, 1) := by decide +kernel
theorem dX9_isAmong_14 : decode cX9_isAmong 14 = .ok (.iload_n 3, 1) := by decide +kernel
theorem dX9_isAmong_15 : decode cX9_isAmong 15 = .ok (.iaload, 1) := by decide +kernel
theorem dX9_isAmong_16 : decode cX9_isAmong 16 = .ok (.aload_n 0, 1) := by decide +kernel
theorem dX9_isAmong_17 : decode cX9_isAmong 17 = .ok (.getfield 66, 3) := by decide +kernel
theorem dX9_isAmong_20 : decode cX9_isAmong 20 = .ok (.if_icmp .ne 5, 3) := by decide +kernel
theorem dX9_isAmong_23 : decode cX9_isAmong 23 = .ok (.iconst 1, 1) := by decide +kernel
theorem dX9_isAmong_24 : decode cX9_isAmong 24 = .ok (.ireturn, 1) := by decide +kernel
theorem dX9_isAmong_25 : decode cX9_isAmong 25 = .ok (.iinc 3 1, 3) := by decide +kernel
theorem dX9_isAmong_28 : decode cX9_isAmong 28 = .ok (.goto (-26), 3) := by decide +kernel
theorem dX9_isAmong_31 : decode cX9_isAmong 31 = .ok (.iconst 0, 1) := by decide +kernel
theorem dX9_isAmong_32 : decode cX9_isAmong 32 = .ok (.ireturn, 1) := by decide +kernel
theorem dX9_readNumber_0 : decode cX9_readNumber 0 = .ok (.aload_n 0, 1) := by decide +kernel
theorem dX9_readNumber_1 : decode cX9_readNumber 1 = .ok (.invokevirtual 29, 3) := by decide +kernel
theorem dX9_readNumber_4 : decode cX9_readNumber 4 = .ok (.aload_n 0, 1) := by decide +kernel
theorem dX9_readNumber_5 : decode cX9_readNumber 5 = .ok (.getfield 32, 3) := by decide +kernel
theorem dX9_readNumber_8 : decode cX9_readNumber 8 = .ok (.iconst 2, 1) := by decide +kernel
theorem dX9_readNumber_9 : decode cX9_readNumber 9 = .ok (.if_icmp .ne 23, 3) := by decide +kernel
theorem dX9_readNumber_12 : decode cX9_readNumber 12 = .ok (.aload_n 0, 1) := by decide +kernel
theorem dX9_readNumber_13 : decode cX9_readNumber 13 = .ok (.getfield 66, 3) := by decide +kernel
theorem dX9_readNumber_16 : decode cX9_readNumber 16 = .ok (.iload_n 1, 1) := by decide +kernel
theorem dX9_readNumber_17 : decode cX9_readNumber 17 = .ok (.if_icmp .lt 15, 3) := by decide +kernel
theorem dX9_readNumber_20 : decode cX9_readNumber 20 = .ok (.aload_n 0, 1) := by decide +kernel
theorem dX9_readNumber_21 : decode cX9_readNumber 21 = .ok (.getfield 66, 3) := by decide +kernel
theorem dX9_readNumber_24 : decode cX9_readNumber 24 = .ok (.iload_n 2, 1) := by decide +kernel
theorem dX9_readNumber_25 : decode cX9_readNumber 25 = .ok (.if_icmp .gt 7, 3) := by decide +kernel
theorem dX9_readNumber_28 : decode cX9_readNumber 28 = .ok (.iconst 1, 1) := by decide +kernel
theorem dX9_readNumber_29 : decode cX9_readNumber 29 = .ok (.goto 4, 3) := by decide +kernel
theorem dX9_readNumber_32 : decode cX9_readNumber 32 = .ok (.iconst 0, 1) := by decide +kernel
theorem dX9_readNumber_33 : decode cX9_readNumber 33 = .ok (.ireturn, 1) := by decide +kernel
theorem dX9_readRow_0 : decode cX9_readRow 0 = .ok (.aload_n 0, 1) := by decide +kernel
theorem dX9_readRow_1 : decode cX9_readRow 1 = .ok (.invokevirtual 29, 3) := by decide +kernel
theorem dX9_readRow_4 : decode cX9_readRow 4 = .ok (.aload_n 0, 1) := by decide +kernel
theorem dX9_readRow_5 : decode cX9_readRow 5 = .ok (.getfield 32, 3) := by decide +kernel
theorem dX9_readRow_8 : decode cX9_readRow 8 = .ok (.iconst 1, 1) := by decide +kernel
theorem dX9_readRow_9 : decode cX9_readRow 9 = .ok (.if_icmp .ne 17, 3) := by decide +kernel
theorem dX9_readRow_12 : decode cX9_readRow 12 = .ok (.aload_n 0, 1) := by decide +kernel
theorem dX9_readRow_13 : decode cX9_readRow 13 = .ok (.getfield 25, 3) := by decide +kernel
theorem dX9_readRow_16 : decode cX9_readRow 16 = .ok (.aload_n 0, 1) := by decide +kernel
theorem dX9_readRow_17 : decode cX9_readRow 17 = .ok (.getfield 39, 3) := by decide +kernel
theorem dX9_readRow_20 : decode cX9_readRow 20 = .ok (.isub, 1) := by decide +kernel
theorem dX9_readRow_21 : decode cX9_readRow 21 = .ok (.bipush 6, 2) := by decide +kernel
theorem dX9_readRow_23 : decode cX9_readRow 23 = .ok (.if_icmp .le 5, 3) := by decide +kernel
theorem dX9_readRow_26 : decode cX9_readRow 26 = .ok (.iconst 0, 1) := by decide +kernel
theorem dX9_readRow_27 : decode cX9_readRow 27 = .ok (.ireturn, 1) := by decide +kernel
theorem dX9_readRow_28 : decode cX9_readRow 28 = .ok (.aload_n 0, 1) := by decide +kernel
theorem dX9_readRow_29 : decode cX9_readRow 29 = .ok (.iconst 0, 1) := by decide +kernel
theorem dX9_readRow_30 : decode cX9_readRow 30 = .ok (.putfield 66, 3) := by decide +kernel
theorem dX9_readRow_33 : decode cX9_readRow 33 = .ok (.aload_n 0, 1) := by decide +kernel
theorem dX9_readRow_34 : decode cX9_readRow 34 = .ok (.getfield 39, 3) := by decide +kernel
theorem dX9_readRow_37 : decode cX9_readRow 37 = .ok (.istore_n 1, 1) := by decide +kernel
theorem dX9_readRow_38 : decode cX9_readRow 38 = .ok (.iload_n 1, 1) := by decide +kernel
theorem dX9_readRow_39 : decode cX9_readRow 39 = .ok (.aload_n 0, 1) := by decide +kernel
theorem dX9_readRow_40 : decode cX9_readRow 40 = .ok (.getfield 25, 3) := by decide +kernel
theorem dX9_readRow_43 : decode cX9_readRow 43 = .ok (.if_icmp .ge 42, 3) := by decide +kernel
theorem dX9_readRow_46 : decode cX9_readRow 46 = .ok (.aload_n 0, 1) := by decide +kernel
theorem dX9_readRow_47 : decode cX9_readRow 47 = .ok (.getfield 9, 3) := by decide +kernel
theorem dX9_readRow_50 : decode cX9_readRow 50 = .ok (.iload_n 1, 1) := by decide +kernel
theorem dX9_readRow_51 : decode cX9_readRow 51 = .ok (.caload, 1) := by decide +kernel
theorem dX9_readRow_52 : decode cX9_readRow 52 = .ok (.bipush 102, 2) := by decide +kernel
theorem dX9_readRow_54 : decode cX9_readRow 54 = .ok (.if_icmp .le 5, 3) := by decide +kernel
theorem dX9_readRow_57 : decode cX9_readRow 57 = .ok (.iconst 0, 1) := by decide +kernel
theorem dX9_readRow_58 : decode cX9_readRow 58 = .ok (.ireturn, 1) := by decide +kernel
theorem dX9_readRow_59 : decode cX9_readRow 59 = .ok (.aload_n 0, 1) := by decide +kernel
theorem dX9_readRow_60 : decode cX9_readRow 60 = .ok (.dup, 1) := by decide +kernel
theorem dX9_readRow_61 : decode cX9_readRow 61 = .ok (.getfield 66, 3) := by decide +kernel
theorem dX9_readRow_64 : decode cX9_readRow 64 = .ok (.iconst 1, 1) := by decide +kernel
theorem dX9_readRow_65 : decode cX9_readRow 65 = .ok (.aload_n 0, 1) := by decide +kernel
theorem dX9_readRow_66 : decode cX9_readRow 66 = .ok (.getfield 9, 3) := by decide +kernel
theorem dX9_readRow_69 : decode cX9_readRow 69 = .ok (.iload_n 1, 1) := by decide +kernel
theorem dX9_readRow_70 : decode cX9_readRow 70 = .ok (.caload, 1) := by decide +kernel
theorem dX9_readRow_71 : decode cX9_readRow 71 = .ok (.bipush 97, 2) := by decide +kernel
theorem dX9_readRow_73 : decode cX9_readRow 73 = .ok (.isub, 1) := by decide +kernel
theorem dX9_readRow_74 : decode cX9_readRow 74 = .ok (.ishl, 1) := by decide +kernel
theorem dX9_readRow_75 : decode cX9_readRow 75 = .ok (.ior, 1) := by decide +kernel
theorem dX9_readRow_76 : decode cX9_readRow 76 = .ok (.putfield 66, 3) := by decide +kernel
theorem dX9_readRow_79 : decode cX9_readRow 79 = .ok (.iinc 1 1, 3) := by decide +kernel
theorem dX9_readRow_82 : decode cX9_readRow 82 = .ok (.goto (-44), 3) := by decide +kernel
theorem dX9_readRow_85 : decode cX9_readRow 85 = .ok (.iconst 1, 1) := by decide +kernel
theorem dX9_readRow_86 : decode cX9_readRow 86 = .ok (.ireturn, 1) := by decide +kernel
theorem dX9_readClose_0 : decode cX9_readClose 0 = .ok (.aload_n 0, 1) := by decide +kernel
theorem dX9_readClose_1 : decode cX9_readClose 1 = .ok (.invokevirtual 29, 3) := by decide +kernel
theorem dX9_readClose_4 : decode cX9_readClose 4 = .ok (.aload_n 0, 1) := by decide +kernel
theorem dX9_readClose_5 : decode cX9_readClose 5 = .ok (.getfield 32, 3) := by decide +kernel
theorem dX9_readClose_8 : decode cX9_readClose 8 = .ok (.iconst 3, 1) := by decide +kernel
theorem dX9_readClose_9 : decode cX9_readClose 9 = .ok (.if_icmp .eq 5, 3) := by decide +kernel
theorem dX9_readClose_12 : decode cX9_readClose 12 = .ok (.iconst 0, 1) := by decide +kernel
theorem dX9_readClose_13 : decode cX9_readClose 13 = .ok (.ireturn, 1) := by decide +kernel
theorem dX9_readClose_14 : decode cX9_readClose 14 = .ok (.aload_n 0, 1) := by decide +kernel
theorem dX9_readClose_15 : decode cX9_readClose 15 = .ok (.invokevirtual 29, 3) := by decide +kernel
theorem dX9_readClose_18 : decode cX9_readClose 18 = .ok (.iconst 1, 1) := by decide +kernel
theorem dX9_readClose_19 : decode cX9_readClose 19 = .ok (.ireturn, 1) := by decide +kernel
theorem dX9_isWord_0 : decode cX9_isWord 0 = .ok (.aload_n 0, 1) := by decide +kernel
theorem dX9_isWord_1 : decode cX9_isWord 1 = .ok (.getfield 32, 3) := by decide +kernel
theorem dX9_isWord_4 : decode cX9_isWord 4 = .ok (.iconst 1, 1) := by decide +kernel
theorem dX9_isWord_5 : decode cX9_isWord 5 = .ok (.if_icmp .ne 33, 3) := by decide +kernel
theorem dX9_isWord_8 : decode cX9_isWord 8 = .ok (.aload_n 0, 1) := by decide +kernel
theorem dX9_isWord_9 : decode cX9_isWord 9 = .ok (.getfield 25, 3) := by decide +kernel
theorem dX9_isWord_12 : decode cX9_isWord 12 = .ok (.aload_n 0, 1) := by decide +kernel
theorem dX9_isWord_13 : decode cX9_isWord 13 = .ok (.getfield 39, 3) := by decide +kernel
theorem dX9_isWord_16 : decode cX9_isWord 16 = .ok (.isub, 1) := by decide +kernel
theorem dX9_isWord_17 : decode cX9_isWord 17 = .ok (.iconst 1, 1) := by decide +kernel
theorem dX9_isWord_18 : decode cX9_isWord 18 = .ok (.if_icmp .ne 20, 3) := by decide +kernel
theorem dX9_isWord_21 : decode cX9_isWord 21 = .ok (.aload_n 0, 1) := by decide +kernel
theorem dX9_isWord_22 : decode cX9_isWord 22 = .ok (.getfield 9, 3) := by decide +kernel
theorem dX9_isWord_25 : decode cX9_isWord 25 = .ok (.aload_n 0, 1) := by decide +kernel
theorem dX9_isWord_26 : decode cX9_isWord 26 = .ok (.getfield 39, 3) := by decide +kernel
theorem dX9_isWord_29 : decode cX9_isWord 29 = .ok (.caload, 1) := by decide +kernel
theorem dX9_isWord_30 : decode cX9_isWord 30 = .ok (.iload_n 1, 1) := by decide +kernel
theorem dX9_isWord_31 : decode cX9_isWord 31 = .ok (.if_icmp .ne 7, 3) := by decide +kernel
theorem dX9_isWord_34 : decode cX9_isWord 34 = .ok (.iconst 1, 1) := by decide +kernel
theorem dX9_isWord_35 : decode cX9_isWord 35 = .ok (.goto 4, 3) := by decide +kernel
theorem dX9_isWord_38 : decode cX9_isWord 38 = .ok (.iconst 0, 1) := by decide +kernel
theorem dX9_isWord_39 : decode cX9_isWord 39 = .ok (.ireturn, 1) := by decide +kernel
theorem dX9_nextToken_0 : decode cX9_nextToken 0 = .ok (.aload_n 0, 1) := by decide +kernel
theorem dX9_nextToken_1 : decode cX9_nextToken 1 = .ok (.aload_n 0, 1) := by decide +kernel
theorem dX9_nextToken_2 : decode cX9_nextToken 2 = .ok (.getfield 25, 3) := by decide +kernel
theorem dX9_nextToken_5 : decode cX9_nextToken 5 = .ok (.putfield 39, 3) := by decide +kernel
theorem dX9_nextToken_8 : decode cX9_nextToken 8 = .ok (.aload_n 0, 1) := by decide +kernel
theorem dX9_nextToken_9 : decode cX9_nextToken 9 = .ok (.getfield 39, 3) := by decide +kernel
theorem dX9_nextToken_12 : decode cX9_nextToken 12 = .ok (.aload_n 0, 1) := by decide +kernel
theorem dX9_nextToken_13 : decode cX9_nextToken 13 = .ok (.getfield 106, 3) := by decide +kernel
theorem dX9_nextToken_16 : decode cX9_nextToken 16 = .ok (.if_icmp .ge 30, 3) := by decide +kernel
theorem dX9_nextToken_19 : decode cX9_nextToken 19 = .ok (.aload_n 0, 1) := by decide +kernel
theorem dX9_nextToken_20 : decode cX9_nextToken 20 = .ok (.getfield 9, 3) := by decide +kernel
theorem dX9_nextToken_23 : decode cX9_nextToken 23 = .ok (.aload_n 0, 1) := by decide +kernel
theorem dX9_nextToken_24 : decode cX9_nextToken 24 = .ok (.getfield 39, 3) := by decide +kernel
theorem dX9_nextToken_27 : decode cX9_nextToken 27 = .ok (.caload, 1) := by decide +kernel
theorem dX9_nextToken_28 : decode cX9_nextToken 28 = .ok (.bipush 32, 2) := by decide +kernel
theorem dX9_nextToken_30 : decode cX9_nextToken 30 = .ok (.if_icmp .ne 16, 3) := by decide +kernel
theorem dX9_nextToken_33 : decode cX9_nextToken 33 = .ok (.aload_n 0, 1) := by decide +kernel
theorem dX9_nextToken_34 : decode cX9_nextToken 34 = .ok (.dup, 1) := by decide +kernel
theorem dX9_nextToken_35 : decode cX9_nextToken 35 = .ok (.getfield 39, 3) := by decide +kernel
theorem dX9_nextToken_38 : decode cX9_nextToken 38 = .ok (.iconst 1, 1) := by decide +kernel
theorem dX9_nextToken_39 : decode cX9_nextToken 39 = .ok (.iadd, 1) := by decide +kernel
theorem dX9_nextToken_40 : decode cX9_nextToken 40 = .ok (.putfield 39, 3) := by decide +kernel
theorem dX9_nextToken_43 : decode cX9_nextToken 43 = .ok (.goto (-35), 3) := by decide +kernel
theorem dX9_nextToken_46 : decode cX9_nextToken 46 = .ok (.aload_n 0, 1) := by decide +kernel
theorem dX9_nextToken_47 : decode cX9_nextToken 47 = .ok (.aload_n 0, 1) := by decide +kernel
theorem dX9_nextToken_48 : decode cX9_nextToken 48 = .ok (.getfield 39, 3) := by decide +kernel
theorem dX9_nextToken_51 : decode cX9_nextToken 51 = .ok (.putfield 25, 3) := by decide +kernel
theorem dX9_nextToken_54 : decode cX9_nextToken 54 = .ok (.aload_n 0, 1) := by decide +kernel
theorem dX9_nextToken_55 : decode cX9_nextToken 55 = .ok (.getfield 39, 3) := by decide +kernel
theorem dX9_nextToken_58 : decode cX9_nextToken 58 = .ok (.aload_n 0, 1) := by decide +kernel
theorem dX9_nextToken_59 : decode cX9_nextToken 59 = .ok (.getfield 106, 3) := by decide +kernel
theorem dX9_nextToken_62 : decode cX9_nextToken 62 = .ok (.if_icmp .lt 11, 3) := by decide +kernel
theorem dX9_nextToken_65 : decode cX9_nextToken 65 = .ok (.aload_n 0, 1) := by decide +kernel
theorem dX9_nextToken_66 : decode cX9_nextToken 66 = .ok (.iconst 0, 1) := by decide +kernel
theorem dX9_nextToken_67 : decode cX9_nextToken 67 = .ok (.putfield 32, 3) := by decide +kernel
theorem dX9_nextToken_70 : decode cX9_nextToken 70 = .ok (.goto 80, 3) := by decide +kernel
theorem dX9_nextToken_73 : decode cX9_nextToken 73 = .ok (.aload_n 0, 1) := by decide +kernel
theorem dX9_nextToken_74 : decode cX9_nextToken 74 = .ok (.getfield 9, 3) := by decide +kernel
theorem dX9_nextToken_77 : decode cX9_nextToken 77 = .ok (.aload_n 0, 1) := by decide +kernel
theorem dX9_nextToken_78 : decode cX9_nextToken 78 = .ok (.getfield 39, 3) := by decide +kernel
theorem dX9_nextToken_81 : decode cX9_nextToken 81 = .ok (.caload, 1) := by decide +kernel
theorem dX9_nextToken_82 : decode cX9_nextToken 82 = .ok (.invokestatic 109, 3) := by decide +kernel
theorem dX9_nextToken_85 : decode cX9_nextToken 85 = .ok (.ifCond .eq 10, 3) := by decide +kernel
theorem dX9_nextToken_88 : decode cX9_nextToken 88 = .ok (.aload_n 0, 1) := by decide +kernel
theorem dX9_nextToken_89 : decode cX9_nextToken 89 = .ok (.invokevirtual 112, 3) := by decide +kernel
theorem dX9_nextToken_92 : decode cX9_nextToken 92 = .ok (.goto 58, 3) := by decide +kernel
theorem dX9_nextToken_95 : decode cX9_nextToken 95 = .ok (.aload_n 0, 1) := by decide +kernel
theorem dX9_nextToken_96 : decode cX9_nextToken 96 = .ok (.getfield 9, 3) := by decide +kernel
theorem dX9_nextToken_99 : decode cX9_nextToken 99 = .ok (.aload_n 0, 1) := by decide +kernel
theorem dX9_nextToken_100 : decode cX9_nextToken 100 = .ok (.getfield 39, 3) := by decide +kernel
theorem dX9_nextToken_103 : decode cX9_nextToken 103 = .ok (.caload, 1) := by decide +kernel
theorem dX9_nextToken_104 : decode cX9_nextToken 104 = .ok (.invokestatic 115, 3) := by decide +kernel
theorem dX9_nextToken_107 : decode cX9_nextToken 107 = .ok (.ifCond .eq 10, 3) := by decide +kernel
theorem dX9_nextToken_110 : decode cX9_nextToken 110 = .ok (.aload_n 0, 1) := by decide +kernel
theorem dX9_nextToken_111 : decode cX9_nextToken 111 = .ok (.invokevirtual 118, 3) := by decide +kernel
theorem dX9_nextToken_114 : decode cX9_nextToken 114 = .ok (.goto 36, 3) := by decide +kernel
theorem dX9_nextToken_117 : decode cX9_nextToken 117 = .ok (.aload_n 0, 1) := by decide +kernel
theorem dX9_nextToken_118 : decode cX9_nextToken 118 = .ok (.aload_n 0, 1) := by decide +kernel
theorem dX9_nextToken_119 : decode cX9_nextToken 119 = .ok (.getfield 9, 3) := by decide +kernel
theorem dX9_nextToken_122 : decode cX9_nextToken 122 = .ok (.aload_n 0, 1) := by decide +kernel
theorem dX9_nextToken_123 : decode cX9_nextToken 123 = .ok (.getfield 39, 3) := by decide +kernel
theorem dX9_nextToken_126 : decode cX9_nextToken 126 = .ok (.caload, 1) := by decide +kernel
theorem dX9_nextToken_127 : decode cX9_nextToken 127 = .ok (.bipush 59, 2) := by decide +kernel
theorem dX9_nextToken_129 : decode cX9_nextToken 129 = .ok (.if_icmp .ne 7, 3) := by decide +kernel
theorem dX9_nextToken_132 : decode cX9_nextToken 132 = .ok (.iconst 3, 1) := by decide +kernel
theorem dX9_nextToken_133 : decode cX9_nextToken 133 = .ok (.goto 4, 3) := by decide +kernel
theorem dX9_nextToken_136 : decode cX9_nextToken 136 = .ok (.iconst 4, 1) := by decide +kernel
theorem dX9_nextToken_137 : decode cX9_nextToken 137 = .ok (.putfield 32, 3) := by decide +kernel
theorem dX9_nextToken_140 : decode cX9_nextToken 140 = .ok (.aload_n 0, 1) := by decide +kernel
theorem dX9_nextToken_141 : decode cX9_nextToken 141 = .ok (.aload_n 0, 1) := by decide +kernel
theorem dX9_nextToken_142 : decode cX9_nextToken 142 = .ok (.getfield 39, 3) := by decide +kernel
theorem dX9_nextToken_145 : decode cX9_nextToken 145 = .ok (.iconst 1, 1) := by decide +kernel
theorem dX9_nextToken_146 : decode cX9_nextToken 146 = .ok (.iadd, 1) := by decide +kernel
theorem dX9_nextToken_147 : decode cX9_nextToken 147 = .ok (.putfield 25, 3) := by decide +kernel
theorem dX9_nextToken_150 : decode cX9_nextToken 150 = .ok (.return_, 1) := by decide +kernel
theorem dX9_nextWord_0 : decode cX9_nextWord 0 = .ok (.aload_n 0, 1) := by decide +kernel
theorem dX9_nextWord_1 : decode cX9_nextWord 1 = .ok (.iconst 1, 1) := by decide +kernel
theorem dX9_nextWord_2 : decode cX9_nextWord 2 = .ok (.putfield 32, 3) := by decide +kernel
theorem dX9_nextWord_5 : decode cX9_nextWord 5 = .ok (.aload_n 0, 1) := by decide +kernel
theorem dX9_nextWord_6 : decode cX9_nextWord 6 = .ok (.getfield 25, 3) := by decide +kernel
theorem dX9_nextWord_9 : decode cX9_nextWord 9 = .ok (.aload_n 0, 1) := by decide +kernel
theorem dX9_nextWord_10 : decode cX9_nextWord 10 = .ok (.getfield 106, 3) := by decide +kernel
theorem dX9_nextWord_13 : decode cX9_nextWord 13 = .ok (.if_icmp .ge 31, 3) := by decide +kernel
theorem dX9_nextWord_16 : decode cX9_nextWord 16 = .ok (.aload_n 0, 1) := by decide +kernel
theorem dX9_nextWord_17 : decode cX9_nextWord 17 = .ok (.getfield 9, 3) := by decide +kernel
theorem dX9_nextWord_20 : decode cX9_nextWord 20 = .ok (.aload_n 0, 1) := by decide +kernel
theorem dX9_nextWord_21 : decode cX9_nextWord 21 = .ok (.getfield 25, 3) := by decide +kernel
theorem dX9_nextWord_24 : decode cX9_nextWord 24 = .ok (.caload, 1) := by decide +kernel
theorem dX9_nextWord_25 : decode cX9_nextWord 25 = .ok (.invokestatic 109, 3) := by decide +kernel
theorem dX9_nextWord_28 : decode cX9_nextWord 28 = .ok (.ifCond .eq 16, 3) := by decide +kernel
theorem dX9_nextWord_31 : decode cX9_nextWord 31 = .ok (.aload_n 0, 1) := by decide +kernel
theorem dX9_nextWord_32 : decode cX9_nextWord 32 = .ok (.dup, 1) := by decide +kernel
theorem dX9_nextWord_33 : decode cX9_nextWord 33 = .ok (.getfield 25, 3) := by decide +kernel
theorem dX9_nextWord_36 : decode cX9_nextWord 36 = .ok (.iconst 1, 1) := by decide +kernel
theorem dX9_nextWord_37 : decode cX9_nextWord 37 = .ok (.iadd, 1) := by decide +kernel
theorem dX9_nextWord_38 : decode cX9_nextWord 38 = .ok (.putfield 25, 3) := by decide +kernel
theorem dX9_nextWord_41 : decode cX9_nextWord 41 = .ok (.goto (-36), 3) := by decide +kernel
theorem dX9_nextWord_44 : decode cX9_nextWord 44 = .ok (.return_, 1) := by decide +kernel
theorem dX9_nextNumber_0 : decode cX9_nextNumber 0 = .ok (.aload_n 0, 1) := by decide +kernel
theorem dX9_nextNumber_1 : decode cX9_nextNumber 1 = .ok (.iconst 0, 1) := by decide +kernel
theorem dX9_nextNumber_2 : decode cX9_nextNumber 2 = .ok (.putfield 66, 3) := by decide +kernel
theorem dX9_nextNumber_5 : decode cX9_nextNumber 5 = .ok (.aload_n 0, 1) := by decide +kernel
theorem dX9_nextNumber_6 : decode cX9_nextNumber 6 = .ok (.getfield 25, 3) := by decide +kernel
theorem dX9_nextNumber_9 : decode cX9_nextNumber 9 = .ok (.aload_n 0, 1) := by decide +kernel
theorem dX9_nextNumber_10 : decode cX9_nextNumber 10 = .ok (.getfield 106, 3) := by decide +kernel
theorem dX9_nextNumber_13 : decode cX9_nextNumber 13 = .ok (.if_icmp .ge 60, 3) := by decide +kernel
theorem dX9_nextNumber_16 : decode cX9_nextNumber 16 = .ok (.aload_n 0, 1) := by decide +kernel
theorem dX9_nextNumber_17 : decode cX9_nextNumber 17 = .ok (.getfield 9, 3) := by decide +kernel
theorem dX9_nextNumber_20 : decode cX9_nextNumber 20 = .ok (.aload_n 0, 1) := by decide +kernel
theorem dX9_nextNumber_21 : decode cX9_nextNumber 21 = .ok (.getfield 25, 3) := by decide +kernel
theorem dX9_nextNumber_24 : decode cX9_nextNumber 24 = .ok (.caload, 1) := by decide +kernel
theorem dX9_nextNumber_25 : decode cX9_nextNumber 25 = .ok (.invokestatic 115, 3) := by decide +kernel
theorem dX9_nextNumber_28 : decode cX9_nextNumber 28 = .ok (.ifCond .eq 45, 3) := by decide +kernel
theorem dX9_nextNumber_31 : decode cX9_nextNumber 31 = .ok (.aload_n 0, 1) := by decide +kernel
theorem dX9_nextNumber_32 : decode cX9_nextNumber 32 = .ok (.aload_n 0, 1) := by decide +kernel
theorem dX9_nextNumber_33 : decode cX9_nextNumber 33 = .ok (.getfield 66, 3) := by decide +kernel
theorem dX9_nextNumber_36 : decode cX9_nextNumber 36 = .ok (.bipush 10, 2) := by decide +kernel
theorem dX9_nextNumber_38 : decode cX9_nextNumber 38 = .ok (.imul, 1) := by decide +kernel
theorem dX9_nextNumber_39 : decode cX9_nextNumber 39 = .ok (.aload_n 0, 1) := by decide +kernel
theorem dX9_nextNumber_40 : decode cX9_nextNumber 40 = .ok (.getfield 9, 3) := by decide +kernel
theorem dX9_nextNumber_43 : decode cX9_nextNumber 43 = .ok (.aload_n 0, 1) := by decide +kernel
theorem dX9_nextNumber_44 : decode cX9_nextNumber 44 = .ok (.getfield 25, 3) := by decide +kernel
theorem dX9_nextNumber_47 : decode cX9_nextNumber 47 = .ok (.caload, 1) := by decide +kernel
theorem dX9_nextNumber_48 : decode cX9_nextNumber 48 = .ok (.iadd, 1) := by decide +kernel
theorem dX9_nextNumber_49 : decode cX9_nextNumber 49 = .ok (.bipush 48, 2) := by decide +kernel
theorem dX9_nextNumber_51 : decode cX9_nextNumber 51 = .ok (.isub, 1) := by decide +kernel
theorem dX9_nextNumber_52 : decode cX9_nextNumber 52 = .ok (.bipush 100, 2) := by decide +kernel
theorem dX9_nextNumber_54 : decode cX9_nextNumber 54 = .ok (.invokestatic 121, 3) := by decide +kernel
theorem dX9_nextNumber_57 : decode cX9_nextNumber 57 = .ok (.putfield 66, 3) := by decide +kernel
theorem dX9_nextNumber_60 : decode cX9_nextNumber 60 = .ok (.aload_n 0, 1) := by decide +kernel
theorem dX9_nextNumber_61 : decode cX9_nextNumber 61 = .ok (.dup, 1) := by decide +kernel
theorem dX9_nextNumber_62 : decode cX9_nextNumber 62 = .ok (.getfield 25, 3) := by decide +kernel
theorem dX9_nextNumber_65 : decode cX9_nextNumber 65 = .ok (.iconst 1, 1) := by decide +kernel
theorem dX9_nextNumber_66 : decode cX9_nextNumber 66 = .ok (.iadd, 1) := by decide +kernel
theorem dX9_nextNumber_67 : decode cX9_nextNumber 67 = .ok (.putfield 25, 3) := by decide +kernel
theorem dX9_nextNumber_70 : decode cX9_nextNumber 70 = .ok (.goto (-65), 3) := by decide +kernel
theorem dX9_nextNumber_73 : decode cX9_nextNumber 73 = .ok (.aload_n 0, 1) := by decide +kernel
theorem dX9_nextNumber_74 : decode cX9_nextNumber 74 = .ok (.getfield 9, 3) := by decide +kernel
theorem dX9_nextNumber_77 : decode cX9_nextNumber 77 = .ok (.aload_n 0, 1) := by decide +kernel
theorem dX9_nextNumber_78 : decode cX9_nextNumber 78 = .ok (.getfield 39, 3) := by decide +kernel
theorem dX9_nextNumber_81 : decode cX9_nextNumber 81 = .ok (.caload, 1) := by decide +kernel
theorem dX9_nextNumber_82 : decode cX9_nextNumber 82 = .ok (.bipush 48, 2) := by decide +kernel
theorem dX9_nextNumber_84 : decode cX9_nextNumber 84 = .ok (.if_icmp .ne 20, 3) := by decide +kernel
theorem dX9_nextNumber_87 : decode cX9_nextNumber 87 = .ok (.aload_n 0, 1) := by decide +kernel
theorem dX9_nextNumber_88 : decode cX9_nextNumber 88 = .ok (.getfield 25, 3) := by decide +kernel
theorem dX9_nextNumber_91 : decode cX9_nextNumber 91 = .ok (.aload_n 0, 1) := by decide +kernel
theorem dX9_nextNumber_92 : decode cX9_nextNumber 92 = .ok (.getfield 39, 3) := by decide +kernel
theorem dX9_nextNumber_95 : decode cX9_nextNumber 95 = .ok (.isub, 1) := by decide +kernel
theorem dX9_nextNumber_96 : decode cX9_nextNumber 96 = .ok (.iconst 1, 1) := by decide +kernel
theorem dX9_nextNumber_97 : decode cX9_nextNumber 97 = .ok (.if_icmp .le 7, 3) := by decide +kernel
theorem dX9_nextNumber_100 : decode cX9_nextNumber 100 = .ok (.iconst 1, 1) := by decide +kernel
theorem dX9_nextNumber_101 : decode cX9_nextNumber 101 = .ok (.goto 4, 3) := by decide +kernel
theorem dX9_nextNumber_104 : decode cX9_nextNumber 104 = .ok (.iconst 0, 1) := by decide +kernel
theorem dX9_nextNumber_105 : decode cX9_nextNumber 105 = .ok (.istore_n 1, 1) := by decide +kernel
theorem dX9_nextNumber_106 : decode cX9_nextNumber 106 = .ok (.aload_n 0, 1) := by decide +kernel
theorem dX9_nextNumber_107 : decode cX9_nextNumber 107 = .ok (.aload_n 0, 1) := by decide +kernel
theorem dX9_nextNumber_108 : decode cX9_nextNumber 108 = .ok (.getfield 66, 3) := by decide +kernel
theorem dX9_nextNumber_111 : decode cX9_nextNumber 111 = .ok (.bipush 99, 2) := by decide +kernel
theorem dX9_nextNumber_113 : decode cX9_nextNumber 113 = .ok (.if_icmp .gt 7, 3) := by decide +kernel
theorem dX9_nextNumber_116 : decode cX9_nextNumber 116 = .ok (.iload_n 1, 1) := by decide +kernel
theorem dX9_nextNumber_117 : decode cX9_nextNumber 117 = .ok (.ifCond .eq 7, 3) := by decide +kernel
theorem dX9_nextNumber_120 : decode cX9_nextNumber 120 = .ok (.iconst 4, 1) := by decide +kernel
theorem dX9_nextNumber_121 : decode cX9_nextNumber 121 = .ok (.goto 4, 3) := by decide +kernel
theorem dX9_nextNumber_124 : decode cX9_nextNumber 124 = .ok (.iconst 2, 1) := by decide +kernel
theorem dX9_nextNumber_125 : decode cX9_nextNumber 125 = .ok (.putfield 32, 3) := by decide +kernel
theorem dX9_nextNumber_128 : decode cX9_nextNumber 128 = .ok (.return_, 1) := by decide +kernel
theorem dX9_isSmall_0 : decode cX9_isSmall 0 = .ok (.iload_n 0, 1) := by decide +kernel
theorem dX9_isSmall_1 : decode cX9_isSmall 1 = .ok (.bipush 97, 2) := by decide +kernel
theorem dX9_isSmall_3 : decode cX9_isSmall 3 = .ok (.if_icmp .lt 13, 3) := by decide +kernel
theorem dX9_isSmall_6 : decode cX9_isSmall 6 = .ok (.iload_n 0, 1) := by decide +kernel
theorem dX9_isSmall_7 : decode cX9_isSmall 7 = .ok (.bipush 122, 2) := by decide +kernel
theorem dX9_isSmall_9 : decode cX9_isSmall 9 = .ok (.if_icmp .gt 7, 3) := by decide +kernel
theorem dX9_isSmall_12 : decode cX9_isSmall 12 = .ok (.iconst 1, 1) := by decide +kernel
theorem dX9_isSmall_13 : decode cX9_isSmall 13 = .ok (.goto 4, 3) := by decide +kernel
theorem dX9_isSmall_16 : decode cX9_isSmall 16 = .ok (.iconst 0, 1) := by decide +kernel
theorem dX9_isSmall_17 : decode cX9_isSmall 17 = .ok (.ireturn, 1) := by decide +kernel
theorem dX9_isDigit_0 : decode cX9_isDigit 0 = .ok (.iload_n 0, 1) := by decide +kernel
theorem dX9_isDigit_1 : decode cX9_isDigit 1 = .ok (.bipush 48, 2) := by decide +kernel
theorem dX9_isDigit_3 : decode cX9_isDigit 3 = .ok (.if_icmp .lt 13, 3) := by decide +kernel
theorem dX9_isDigit_6 : decode cX9_isDigit 6 = .ok (.iload_n 0, 1) := by decide +kernel
theorem dX9_isDigit_7 : decode cX9_isDigit 7 = .ok (.bipush 57, 2) := by decide +kernel
theorem dX9_isDigit_9 : decode cX9_isDigit 9 = .ok (.if_icmp .gt 7, 3) := by decide +kernel
theorem dX9_isDigit_12 : decode cX9_isDigit 12 = .ok (.iconst 1, 1) := by decide +kernel
theorem dX9_isDigit_13 : decode cX9_isDigit 13 = .ok (.goto 4, 3) := by decide +kernel
theorem dX9_isDigit_16 : decode cX9_isDigit 16 = .ok (.iconst 0, 1) := by decide +kernel
theorem dX9_isDigit_17 : decode cX9_isDigit 17 = .ok (.ireturn, 1) := by decide +kernel
theorem dX10_init_0 : decode cX10_init 0 = .ok (.aload_n 0, 1) := by decide +kernel
theorem dX10_init_1 : decode cX10_init 1 = .ok (.invokespecial 1, 3) := by decide +kernel
theorem dX10_init_4 : decode cX10_init 4 = .ok (.return_, 1) := by decide +kernel
theorem dX10_worth_0 : decode cX10_worth 0 = .ok (.aload_n 1, 1) := by decide +kernel
theorem dX10_worth_1 : decode cX10_worth 1 = .ok (.dup, 1) := by decide +kernel
theorem dX10_worth_2 : decode cX10_worth 2 = .ok (.getfield 7, 3) := by decide +kernel
theorem dX10_worth_5 : decode cX10_worth 5 = .ok (.ldc2_w 13, 3) := by decide +kernel
theorem dX10_worth_8 : decode cX10_worth 8 = .ok (.ladd, 1) := by decide +kernel
theorem dX10_worth_9 : decode cX10_worth 9 = .ok (.putfield 7, 3) := by decide +kernel
theorem dX10_worth_12 : decode cX10_worth 12 = .ok (.aload_n 0, 1) := by decide +kernel
theorem dX10_worth_13 : decode cX10_worth 13 = .ok (.aload_n 1, 1) := by decide +kernel
theorem dX10_worth_14 : decode cX10_worth 14 = .ok (.invokespecial 15, 3) := by decide +kernel
theorem dX10_worth_17 : decode cX10_worth 17 = .ok (.aload_n 1, 1) := by decide +kernel
theorem dX10_worth_18 : decode cX10_worth 18 = .ok (.getfield 19, 3) := by decide +kernel
theorem dX10_worth_21 : decode cX10_worth 21 = .ok (.iadd, 1) := by decide +kernel
theorem dX10_worth_22 : decode cX10_worth 22 = .ok (.ireturn, 1) := by decide +kernel
