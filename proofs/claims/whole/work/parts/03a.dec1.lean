theorem dX12_init_0 : decode cX12_init 0 = .ok (.aload_n 0, 1) := by decide +kernel
theorem dX12_init_1 : decode cX12_init 1 = .ok (.invokespecial 1, 3) := by decide +kernel
theorem dX12_init_4 : decode cX12_init 4 = .ok (.aload_n 0, 1) := by decide +kernel
theorem dX12_init_5 : decode cX12_init 5 = .ok (.sipush 140, 3) := by decide +kernel
theorem dX12_init_8 : decode cX12_init 8 = .ok (.newarray .int, 2) := by decide +kernel
theorem dX12_init_10 : decode cX12_init 10 = .ok (.putfield 7, 3) := by decide +kernel
theorem dX12_init_13 : decode cX12_init 13 = .ok (.aload_n 0, 1) := by decide +kernel
theorem dX12_init_14 : decode cX12_init 14 = .ok (.bipush 6, 2) := by decide +kernel
theorem dX12_init_16 : decode cX12_init 16 = .ok (.newarray .int, 2) := by decide +kernel
theorem dX12_init_18 : decode cX12_init 18 = .ok (.putfield 13, 3) := by decide +kernel
theorem dX12_init_21 : decode cX12_init 21 = .ok (.aload_n 0, 1) := by decide +kernel
theorem dX12_init_22 : decode cX12_init 22 = .ok (.bipush 12, 2) := by decide +kernel
theorem dX12_init_24 : decode cX12_init 24 = .ok (.newarray .int, 2) := by decide +kernel
theorem dX12_init_26 : decode cX12_init 26 = .ok (.putfield 16, 3) := by decide +kernel
theorem dX12_init_29 : decode cX12_init 29 = .ok (.aload_n 0, 1) := by decide +kernel
theorem dX12_init_30 : decode cX12_init 30 = .ok (.bipush 12, 2) := by decide +kernel
theorem dX12_init_32 : decode cX12_init 32 = .ok (.newarray .int, 2) := by decide +kernel
theorem dX12_init_34 : decode cX12_init 34 = .ok (.putfield 19, 3) := by decide +kernel
theorem dX12_init_37 : decode cX12_init 37 = .ok (.aload_n 0, 1) := by decide +kernel
theorem dX12_init_38 : decode cX12_init 38 = .ok (.bipush 12, 2) := by decide +kernel
theorem dX12_init_40 : decode cX12_init 40 = .ok (.newarray .int, 2) := by decide +kernel
theorem dX12_init_42 : decode cX12_init 42 = .ok (.putfield 22, 3) := by decide +kernel
theorem dX12_init_45 : decode cX12_init 45 = .ok (.aload_n 0, 1) := by decide +kernel
theorem dX12_init_46 : decode cX12_init 46 = .ok (.bipush 25, 2) := by decide +kernel
theorem dX12_init_48 : decode cX12_init 48 = .ok (.newarray .int, 2) := by decide +kernel
theorem dX12_init_50 : decode cX12_init 50 = .ok (.putfield 25, 3) := by decide +kernel
theorem dX12_init_53 : decode cX12_init 53 = .ok (.aload_n 0, 1) := by decide +kernel
theorem dX12_init_54 : decode cX12_init 54 = .ok (.bipush 25, 2) := by decide +kernel
theorem dX12_init_56 : decode cX12_init 56 = .ok (.newarray .int, 2) := by decide +kernel
theorem dX12_init_58 : decode cX12_init 58 = .ok (.putfield 28, 3) := by decide +kernel
theorem dX12_init_61 : decode cX12_init 61 = .ok (.aload_n 0, 1) := by decide +kernel
theorem dX12_init_62 : decode cX12_init 62 = .ok (.bipush 50, 2) := by decide +kernel
theorem dX12_init_64 : decode cX12_init 64 = .ok (.newarray .int, 2) := by decide +kernel
theorem dX12_init_66 : decode cX12_init 66 = .ok (.putfield 31, 3) := by decide +kernel
theorem dX12_init_69 : decode cX12_init 69 = .ok (.aload_n 0, 1) := by decide +kernel
theorem dX12_init_70 : decode cX12_init 70 = .ok (.iconst 2, 1) := by decide +kernel
theorem dX12_init_71 : decode cX12_init 71 = .ok (.newarray .boolean, 2) := by decide +kernel
theorem dX12_init_73 : decode cX12_init 73 = .ok (.putfield 34, 3) := by decide +kernel
theorem dX12_init_76 : decode cX12_init 76 = .ok (.aload_n 0, 1) := by decide +kernel
theorem dX12_init_77 : decode cX12_init 77 = .ok (.sipush 250, 3) := by decide +kernel
theorem dX12_init_80 : decode cX12_init 80 = .ok (.newarray .int, 2) := by decide +kernel
theorem dX12_init_82 : decode cX12_init 82 = .ok (.putfield 38, 3) := by decide +kernel
theorem dX12_init_85 : decode cX12_init 85 = .ok (.aload_n 0, 1) := by decide +kernel
theorem dX12_init_86 : decode cX12_init 86 = .ok (.bipush 6, 2) := by decide +kernel
theorem dX12_init_88 : decode cX12_init 88 = .ok (.newarray .int, 2) := by decide +kernel
theorem dX12_init_90 : decode cX12_init 90 = .ok (.putfield 41, 3) := by decide +kernel
theorem dX12_init_93 : decode cX12_init 93 = .ok (.aload_n 0, 1) := by decide +kernel
theorem dX12_init_94 : decode cX12_init 94 = .ok (.bipush 6, 2) := by decide +kernel
theorem dX12_init_96 : decode cX12_init 96 = .ok (.newarray .int, 2) := by decide +kernel
theorem dX12_init_98 : decode cX12_init 98 = .ok (.putfield 44, 3) := by decide +kernel
theorem dX12_init_101 : decode cX12_init 101 = .ok (.aload_n 0, 1) := by decide +kernel
theorem dX12_init_102 : decode cX12_init 102 = .ok (.bipush 6, 2) := by decide +kernel
theorem dX12_init_104 : decode cX12_init 104 = .ok (.newarray .int, 2) := by decide +kernel
theorem dX12_init_106 : decode cX12_init 106 = .ok (.putfield 47, 3) := by decide +kernel
theorem dX12_init_109 : decode cX12_init 109 = .ok (.aload_n 0, 1) := by decide +kernel
theorem dX12_init_110 : decode cX12_init 110 = .ok (.bipush 6, 2) := by decide +kernel
theorem dX12_init_112 : decode cX12_init 112 = .ok (.newarray .int, 2) := by decide +kernel
theorem dX12_init_114 : decode cX12_init 114 = .ok (.putfield 50, 3) := by decide +kernel
theorem dX12_init_117 : decode cX12_init 117 = .ok (.aload_n 0, 1) := by decide +kernel
theorem dX12_init_118 : decode cX12_init 118 = .ok (.bipush 6, 2) := by decide +kernel
theorem dX12_init_120 : decode cX12_init 120 = .ok (.newarray .int, 2) := by decide +kernel
theorem dX12_init_122 : decode cX12_init 122 = .ok (.putfield 53, 3) := by decide +kernel
theorem dX12_init_125 : decode cX12_init 125 = .ok (.aload_n 0, 1) := by decide +kernel
theorem dX12_init_126 : decode cX12_init 126 = .ok (.bipush 6, 2) := by decide +kernel
theorem dX12_init_128 : decode cX12_init 128 = .ok (.newarray .int, 2) := by decide +kernel
theorem dX12_init_130 : decode cX12_init 130 = .ok (.putfield 56, 3) := by decide +kernel
theorem dX12_init_133 : decode cX12_init 133 = .ok (.aload_n 0, 1) := by decide +kernel
theorem dX12_init_134 : decode cX12_init 134 = .ok (.invokevirtual 59, 3) := by decide +kernel
theorem dX12_init_137 : decode cX12_init 137 = .ok (.aload_n 0, 1) := by decide +kernel
theorem dX12_init_138 : decode cX12_init 138 = .ok (.invokevirtual 62, 3) := by decide +kernel
theorem dX12_init_141 : decode cX12_init 141 = .ok (.return_, 1) := by decide +kernel
theorem dX12_in_0 : decode cX12_in 0 = .ok (.iload_n 0, 1) := by decide +kernel
theorem dX12_in_1 : decode cX12_in 1 = .ok (.iload_n 1, 1) := by decide +kernel
theorem dX12_in_2 : decode cX12_in 2 = .ok (.if_icmp .lt 12, 3) := by decide +kernel
theorem dX12_in_5 : decode cX12_in 5 = .ok (.iload_n 0, 1) := by decide +kernel
theorem dX12_in_6 : decode cX12_in 6 = .ok (.iload_n 2, 1) := by decide +kernel
theorem dX12_in_7 : decode cX12_in 7 = .ok (.if_icmp .gt 7, 3) := by decide +kernel
theorem dX12_in_10 : decode cX12_in 10 = .ok (.iconst 1, 1) := by decide +kernel
theorem dX12_in_11 : decode cX12_in 11 = .ok (.goto 4, 3) := by decide +kernel
theorem dX12_in_14 : decode cX12_in 14 = .ok (.iconst 0, 1) := by decide +kernel
theorem dX12_in_15 : decode cX12_in 15 = .ok (.ireturn, 1) := by decide +kernel
theorem dX12_isOf_0 : decode cX12_isOf 0 = .ok (.iload_n 0, 1) := by decide +kernel
theorem dX12_isOf_1 : decode cX12_isOf 1 = .ok (.iload_n 1, 1) := by decide +kernel
theorem dX12_isOf_2 : decode cX12_isOf 2 = .ok (.ishr, 1) := by decide +kernel
theorem dX12_isOf_3 : decode cX12_isOf 3 = .ok (.iconst 1, 1) := by decide +kernel
theorem dX12_isOf_4 : decode cX12_isOf 4 = .ok (.iand, 1) := by decide +kernel
theorem dX12_isOf_5 : decode cX12_isOf 5 = .ok (.iconst 1, 1) := by decide +kernel
theorem dX12_isOf_6 : decode cX12_isOf 6 = .ok (.if_icmp .ne 7, 3) := by decide +kernel
theorem dX12_isOf_9 : decode cX12_isOf 9 = .ok (.iconst 1, 1) := by decide +kernel
theorem dX12_isOf_10 : decode cX12_isOf 10 = .ok (.goto 4, 3) := by decide +kernel
theorem dX12_isOf_13 : decode cX12_isOf 13 = .ok (.iconst 0, 1) := by decide +kernel
theorem dX12_isOf_14 : decode cX12_isOf 14 = .ok (.ireturn, 1) := by decide +kernel
theorem dX12_ones_0 : decode cX12_ones 0 = .ok (.iconst 0, 1) := by decide +kernel
theorem dX12_ones_1 : decode cX12_ones 1 = .ok (.istore_n 1, 1) := by decide +kernel
theorem dX12_ones_2 : decode cX12_ones 2 = .ok (.iconst 0, 1) := by decide +kernel
theorem dX12_ones_3 : decode cX12_ones 3 = .ok (.istore_n 2, 1) := by decide +kernel
theorem dX12_ones_4 : decode cX12_ones 4 = .ok (.iload_n 2, 1) := by decide +kernel
theorem dX12_ones_5 : decode cX12_ones 5 = .ok (.bipush 6, 2) := by decide +kernel
theorem dX12_ones_7 : decode cX12_ones 7 = .ok (.if_icmp .ge 17, 3) := by decide +kernel
theorem dX12_ones_10 : decode cX12_ones 10 = .ok (.iload_n 1, 1) := by decide +kernel
theorem dX12_ones_11 : decode cX12_ones 11 = .ok (.iload_n 0, 1) := by decide +kernel
theorem dX12_ones_12 : decode cX12_ones 12 = .ok (.iload_n 2, 1) := by decide +kernel
theorem dX12_ones_13 : decode cX12_ones 13 = .ok (.ishr, 1) := by decide +kernel
theorem dX12_ones_14 : decode cX12_ones 14 = .ok (.iconst 1, 1) := by decide +kernel
theorem dX12_ones_15 : decode cX12_ones 15 = .ok (.iand, 1) := by decide +kernel
theorem dX12_ones_16 : decode cX12_ones 16 = .ok (.iadd, 1) := by decide +kernel
theorem dX12_ones_17 : decode cX12_ones 17 = .ok (.istore_n 1, 1) := by decide +kernel
theorem dX12_ones_18 : decode cX12_ones 18 = .ok (.iinc 2 1, 3) := by decide +kernel
theorem dX12_ones_21 : decode cX12_ones 21 = .ok (.goto (-17), 3) := by decide +kernel
theorem dX12_ones_24 : decode cX12_ones 24 = .ok (.iload_n 1, 1) := by decide +kernel
theorem dX12_ones_25 : decode cX12_ones 25 = .ok (.ireturn, 1) := by decide +kernel
theorem dX12_type_0 : decode cX12_type 0 = .ok (.aload_n 0, 1) := by decide +kernel
theorem dX12_type_1 : decode cX12_type 1 = .ok (.iconst 0, 1) := by decide +kernel
theorem dX12_type_2 : decode cX12_type 2 = .ok (.putfield 65, 3) := by decide +kernel
theorem dX12_type_5 : decode cX12_type 5 = .ok (.iload_n 1, 1) := by decide +kernel
theorem dX12_type_6 : decode cX12_type 6 = .ok (.iconst 0, 1) := by decide +kernel
theorem dX12_type_7 : decode cX12_type 7 = .ok (.sipush 255, 3) := by decide +kernel
theorem dX12_type_10 : decode cX12_type 10 = .ok (.invokestatic 69, 3) := by decide +kernel
theorem dX12_type_13 : decode cX12_type 13 = .ok (.ifCond .ne 5, 3) := by decide +kernel
theorem dX12_type_16 : decode cX12_type 16 = .ok (.iconst (-1), 1) := by decide +kernel
theorem dX12_type_17 : decode cX12_type 17 = .ok (.ireturn, 1) := by decide +kernel
theorem dX12_type_18 : decode cX12_type 18 = .ok (.aload_n 0, 1) := by decide +kernel
theorem dX12_type_19 : decode cX12_type 19 = .ok (.getfield 73, 3) := by decide +kernel
theorem dX12_type_22 : decode cX12_type 22 = .ok (.sipush 140, 3) := by decide +kernel
theorem dX12_type_25 : decode cX12_type 25 = .ok (.if_icmp .ne 6, 3) := by decide +kernel
theorem dX12_type_28 : decode cX12_type 28 = .ok (.bipush (-3), 2) := by decide +kernel
theorem dX12_type_30 : decode cX12_type 30 = .ok (.ireturn, 1) := by decide +kernel
theorem dX12_type_31 : decode cX12_type 31 = .ok (.aload_n 0, 1) := by decide +kernel
theorem dX12_type_32 : decode cX12_type 32 = .ok (.getfield 7, 3) := by decide +kernel
theorem dX12_type_35 : decode cX12_type 35 = .ok (.aload_n 0, 1) := by decide +kernel
theorem dX12_type_36 : decode cX12_type 36 = .ok (.getfield 73, 3) := by decide +kernel
theorem dX12_type_39 : decode cX12_type 39 = .ok (.iload_n 1, 1) := by decide +kernel
theorem dX12_type_40 : decode cX12_type 40 = .ok (.iastore, 1) := by decide +kernel
theorem dX12_type_41 : decode cX12_type 41 = .ok (.aload_n 0, 1) := by decide +kernel
theorem dX12_type_42 : decode cX12_type 42 = .ok (.dup, 1) := by decide +kernel
theorem dX12_type_43 : decode cX12_type 43 = .ok (.getfield 73, 3) := by decide +kernel
theorem dX12_type_46 : decode cX12_type 46 = .ok (.iconst 1, 1) := by decide +kernel
theorem dX12_type_47 : decode cX12_type 47 = .ok (.iadd, 1) := by decide +kernel
theorem dX12_type_48 : decode cX12_type 48 = .ok (.putfield 73, 3) := by decide +kernel
theorem dX12_type_51 : decode cX12_type 51 = .ok (.aload_n 0, 1) := by decide +kernel
theorem dX12_type_52 : decode cX12_type 52 = .ok (.getfield 73, 3) := by decide +kernel
theorem dX12_type_55 : decode cX12_type 55 = .ok (.ireturn, 1) := by decide +kernel
theorem dX12_clear_0 : decode cX12_clear 0 = .ok (.aload_n 0, 1) := by decide +kernel
theorem dX12_clear_1 : decode cX12_clear 1 = .ok (.iconst 0, 1) := by decide +kernel
theorem dX12_clear_2 : decode cX12_clear 2 = .ok (.putfield 65, 3) := by decide +kernel
theorem dX12_clear_5 : decode cX12_clear 5 = .ok (.aload_n 0, 1) := by decide +kernel
theorem dX12_clear_6 : decode cX12_clear 6 = .ok (.getfield 73, 3) := by decide +kernel
theorem dX12_clear_9 : decode cX12_clear 9 = .ok (.istore_n 1, 1) := by decide +kernel
theorem dX12_clear_10 : decode cX12_clear 10 = .ok (.aload_n 0, 1) := by decide +kernel
theorem dX12_clear_11 : decode cX12_clear 11 = .ok (.iconst 0, 1) := by decide +kernel
theorem dX12_clear_12 : decode cX12_clear 12 = .ok (.putfield 73, 3) := by decide +kernel
theorem dX12_clear_15 : decode cX12_clear 15 = .ok (.iload_n 1, 1) := by decide +kernel
theorem dX12_clear_16 : decode cX12_clear 16 = .ok (.ireturn, 1) := by decide +kernel
theorem dX12_letterAt_0 : decode cX12_letterAt 0 = .ok (.iload_n 1, 1) := by decide +kernel
theorem dX12_letterAt_1 : decode cX12_letterAt 1 = .ok (.aload_n 0, 1) := by decide +kernel
theorem dX12_letterAt_2 : decode cX12_letterAt 2 = .ok (.getfield 73, 3) := by decide +kernel
theorem dX12_letterAt_5 : decode cX12_letterAt 5 = .ok (.if_icmp .ge 12, 3) := by decide +kernel
theorem dX12_letterAt_8 : decode cX12_letterAt 8 = .ok (.aload_n 0, 1) := by decide +kernel
theorem dX12_letterAt_9 : decode cX12_letterAt 9 = .ok (.getfield 7, 3) := by decide +kernel
theorem dX12_letterAt_12 : decode cX12_letterAt 12 = .ok (.iload_n 1, 1) := by decide +kernel
theorem dX12_letterAt_13 : decode cX12_letterAt 13 = .ok (.iaload, 1) := by decide +kernel
theorem dX12_letterAt_14 : decode cX12_letterAt 14 = .ok (.goto 4, 3) := by decide +kernel
theorem dX12_letterAt_17 : decode cX12_letterAt 17 = .ok (.iconst (-1), 1) := by decide +kernel
theorem dX12_letterAt_18 : decode cX12_letterAt 18 = .ok (.ireturn, 1) := by decide +kernel
theorem dX12_advances_0 : decode cX12_advances 0 = .ok (.aload_n 0, 1) := by decide +kernel
theorem dX12_advances_1 : decode cX12_advances 1 = .ok (.aload_n 0, 1) := by decide +kernel
theorem dX12_advances_2 : decode cX12_advances 2 = .ok (.getfield 76, 3) := by decide +kernel
theorem dX12_advances_5 : decode cX12_advances 5 = .ok (.invokevirtual 79, 3) := by decide +kernel
theorem dX12_advances_8 : decode cX12_advances 8 = .ok (.bipush 32, 2) := by decide +kernel
theorem dX12_advances_10 : decode cX12_advances 10 = .ok (.if_icmp .ne 16, 3) := by decide +kernel
theorem dX12_advances_13 : decode cX12_advances 13 = .ok (.aload_n 0, 1) := by decide +kernel
theorem dX12_advances_14 : decode cX12_advances 14 = .ok (.dup, 1) := by decide +kernel
theorem dX12_advances_15 : decode cX12_advances 15 = .ok (.getfield 76, 3) := by decide +kernel
theorem dX12_advances_18 : decode cX12_advances 18 = .ok (.iconst 1, 1) := by decide +kernel
theorem dX12_advances_19 : decode cX12_advances 19 = .ok (.iadd, 1) := by decide +kernel
theorem dX12_advances_20 : decode cX12_advances 20 = .ok (.putfield 76, 3) := by decide +kernel
theorem dX12_advances_23 : decode cX12_advances 23 = .ok (.goto (-23), 3) := by decide +kernel
theorem dX12_advances_26 : decode cX12_advances 26 = .ok (.aload_n 0, 1) := by decide +kernel
theorem dX12_advances_27 : decode cX12_advances 27 = .ok (.aload_n 0, 1) := by decide +kernel
theorem dX12_advances_28 : decode cX12_advances 28 = .ok (.getfield 76, 3) := by decide +kernel
theorem dX12_advances_31 : decode cX12_advances 31 = .ok (.putfield 83, 3) := by decide +kernel
theorem dX12_advances_34 : decode cX12_advances 34 = .ok (.aload_n 0, 1) := by decide +kernel
theorem dX12_advances_35 : decode cX12_advances 35 = .ok (.aload_n 0, 1) := by decide +kernel
theorem dX12_advances_36 : decode cX12_advances 36 = .ok (.getfield 76, 3) := by decide +kernel
theorem dX12_advances_39 : decode cX12_advances 39 = .ok (.invokevirtual 79, 3) := by decide +kernel
theorem dX12_advances_42 : decode cX12_advances 42 = .ok (.istore_n 1, 1) := by decide +kernel
theorem dX12_advances_43 : decode cX12_advances 43 = .ok (.aload_n 0, 1) := by decide +kernel
theorem dX12_advances_44 : decode cX12_advances 44 = .ok (.iconst 0, 1) := by decide +kernel
theorem dX12_advances_45 : decode cX12_advances 45 = .ok (.putfield 86, 3) := by decide +kernel
theorem dX12_advances_48 : decode cX12_advances 48 = .ok (.iload_n 1, 1) := by decide +kernel
theorem dX12_advances_49 : decode cX12_advances 49 = .ok (.ifCond .ge 11, 3) := by decide +kernel
theorem dX12_advances_52 : decode cX12_advances 52 = .ok (.aload_n 0, 1) := by decide +kernel
theorem dX12_advances_53 : decode cX12_advances 53 = .ok (.iconst 0, 1) := by decide +kernel
theorem dX12_advances_54 : decode cX12_advances 54 = .ok (.putfield 89, 3) := by decide +kernel
theorem dX12_advances_57 : decode cX12_advances 57 = .ok (.goto 221, 3) := by decide +kernel
theorem dX12_advances_60 : decode cX12_advances 60 = .ok (.iload_n 1, 1) := by decide +kernel
theorem dX12_advances_61 : decode cX12_advances 61 = .ok (.bipush 48, 2) := by decide +kernel
theorem dX12_advances_63 : decode cX12_advances 63 = .ok (.bipush 57, 2) := by decide +kernel
theorem dX12_advances_65 : decode cX12_advances 65 = .ok (.invokestatic 69, 3) := by decide +kernel
theorem dX12_advances_68 : decode cX12_advances 68 = .ok (.ifCond .eq 113, 3) := by decide +kernel
theorem dX12_advances_71 : decode cX12_advances 71 = .ok (.aload_n 0, 1) := by decide +kernel
theorem dX12_advances_72 : decode cX12_advances 72 = .ok (.aload_n 0, 1) := by decide +kernel
theorem dX12_advances_73 : decode cX12_advances 73 = .ok (.getfield 76, 3) := by decide +kernel
theorem dX12_advances_76 : decode cX12_advances 76 = .ok (.invokevirtual 79, 3) := by decide +kernel
theorem dX12_advances_79 : decode cX12_advances 79 = .ok (.bipush 48, 2) := by decide +kernel
theorem dX12_advances_81 : decode cX12_advances 81 = .ok (.bipush 57, 2) := by decide +kernel
theorem dX12_advances_83 : decode cX12_advances 83 = .ok (.invokestatic 69, 3) := by decide +kernel
theorem dX12_advances_86 : decode cX12_advances 86 = .ok (.ifCond .eq 55, 3) := by decide +kernel
theorem dX12_advances_89 : decode cX12_advances 89 = .ok (.aload_n 0, 1) := by decide +kernel
theorem dX12_advances_90 : decode cX12_advances 90 = .ok (.aload_n 0, 1) := by decide +kernel
theorem dX12_advances_91 : decode cX12_advances 91 = .ok (.getfield 86, 3) := by decide +kernel
theorem dX12_advances_94 : decode cX12_advances 94 = .ok (.bipush 99, 2) := by decide +kernel
theorem dX12_advances_96 : decode cX12_advances 96 = .ok (.if_icmp .le 10, 3) := by decide +kernel
theorem dX12_advances_99 : decode cX12_advances 99 = .ok (.aload_n 0, 1) := by decide +kernel
theorem dX12_advances_100 : decode cX12_advances 100 = .ok (.getfield 86, 3) := by decide +kernel
theorem dX12_advances_103 : decode cX12_advances 103 = .ok (.goto 22, 3) := by decide +kernel
theorem dX12_advances_106 : decode cX12_advances 106 = .ok (.bipush 10, 2) := by decide +kernel
theorem dX12_advances_108 : decode cX12_advances 108 = .ok (.aload_n 0, 1) := by decide +kernel
theorem dX12_advances_109 : decode cX12_advances 109 = .ok (.getfield 86, 3) := by decide +kernel
theorem dX12_advances_112 : decode cX12_advances 112 = .ok (.imul, 1) := by decide +kernel
theorem dX12_advances_113 : decode cX12_advances 113 = .ok (.aload_n 0, 1) := by decide +kernel
theorem dX12_advances_114 : decode cX12_advances 114 = .ok (.aload_n 0, 1) := by decide +kernel
theorem dX12_advances_115 : decode cX12_advances 115 = .ok (.getfield 76, 3) := by decide +kernel
theorem dX12_advances_118 : decode cX12_advances 118 = .ok (.invokevirtual 79, 3) := by decide +kernel
theorem dX12_advances_121 : decode cX12_advances 121 = .ok (.iadd, 1) := by decide +kernel
theorem dX12_advances_122 : decode cX12_advances 122 = .ok (.bipush 48, 2) := by decide +kernel
theorem dX12_advances_124 : decode cX12_advances 124 = .ok (.isub, 1) := by decide +kernel
theorem dX12_advances_125 : decode cX12_advances 125 = .ok (.putfield 86, 3) := by decide +kernel
theorem dX12_advances_128 : decode cX12_advances 128 = .ok (.aload_n 0, 1) := by decide +kernel
theorem dX12_advances_129 : decode cX12_advances 129 = .ok (.dup, 1) := by decide +kernel
theorem dX12_advances_130 : decode cX12_advances 130 = .ok (.getfield 76, 3) := by decide +kernel
theorem dX12_advances_133 : decode cX12_advances 133 = .ok (.iconst 1, 1) := by decide +kernel
theorem dX12_advances_134 : decode cX12_advances 134 = .ok (.iadd, 1) := by decide +kernel
theorem dX12_advances_135 : decode cX12_advances 135 = .ok (.putfield 76, 3) := by decide +kernel
theorem dX12_advances_138 : decode cX12_advances 138 = .ok (.goto (-67), 3) := by decide +kernel
theorem dX12_advances_141 : decode cX12_advances 141 = .ok (.aload_n 0, 1) := by decide +kernel
theorem dX12_advances_142 : decode cX12_advances 142 = .ok (.aload_n 0, 1) := by decide +kernel
theorem dX12_advances_143 : decode cX12_advances 143 = .ok (.getfield 86, 3) := by decide +kernel
theorem dX12_advances_146 : decode cX12_advances 146 = .ok (.bipush 99, 2) := by decide +kernel
theorem dX12_advances_148 : decode cX12_advances 148 = .ok (.if_icmp .gt 22, 3) := by decide +kernel
theorem dX12_advances_151 : decode cX12_advances 151 = .ok (.iload_n 1, 1) := by decide +kernel
theorem dX12_advances_152 : decode cX12_advances 152 = .ok (.bipush 48, 2) := by decide +kernel
theorem dX12_advances_154 : decode cX12_advances 154 = .ok (.if_icmp .ne 20, 3) := by decide +kernel
theorem dX12_advances_157 : decode cX12_advances 157 = .ok (.aload_n 0, 1) := by decide +kernel
theorem dX12_advances_158 : decode cX12_advances 158 = .ok (.getfield 76, 3) := by decide +kernel
theorem dX12_advances_161 : decode cX12_advances 161 = .ok (.aload_n 0, 1) := by decide +kernel
theorem dX12_advances_162 : decode cX12_advances 162 = .ok (.getfield 83, 3) := by decide +kernel
theorem dX12_advances_165 : decode cX12_advances 165 = .ok (.isub, 1) := by decide +kernel
theorem dX12_advances_166 : decode cX12_advances 166 = .ok (.iconst 1, 1) := by decide +kernel
theorem dX12_advances_167 : decode cX12_advances 167 = .ok (.if_icmp .le 7, 3) := by decide +kernel
theorem dX12_advances_170 : decode cX12_advances 170 = .ok (.iconst 4, 1) := by decide +kernel
theorem dX12_advances_171 : decode cX12_advances 171 = .ok (.goto 4, 3) := by decide +kernel
theorem dX12_advances_174 : decode cX12_advances 174 = .ok (.iconst 2, 1) := by decide +kernel
theorem dX12_advances_175 : decode cX12_advances 175 = .ok (.putfield 89, 3) := by decide +kernel
theorem dX12_advances_178 : decode cX12_advances 178 = .ok (.goto 100, 3) := by decide +kernel
theorem dX12_advances_181 : decode cX12_advances 181 = .ok (.iload_n 1, 1) := by decide +kernel
theorem dX12_advances_182 : decode cX12_advances 182 = .ok (.bipush 97, 2) := by decide +kernel
theorem dX12_advances_184 : decode cX12_advances 184 = .ok (.bipush 122, 2) := by decide +kernel
theorem dX12_advances_186 : decode cX12_advances 186 = .ok (.invokestatic 69, 3) := by decide +kernel
theorem dX12_advances_189 : decode cX12_advances 189 = .ok (.ifCond .eq 64, 3) := by decide +kernel
theorem dX12_advances_192 : decode cX12_advances 192 = .ok (.aload_n 0, 1) := by decide +kernel
theorem dX12_advances_193 : decode cX12_advances 193 = .ok (.aload_n 0, 1) := by decide +kernel
theorem dX12_advances_194 : decode cX12_advances 194 = .ok (.getfield 76, 3) := by decide +kernel
theorem dX12_advances_197 : decode cX12_advances 197 = .ok (.invokevirtual 79, 3) := by decide +kernel
theorem dX12_advances_200 : decode cX12_advances 200 = .ok (.bipush 97, 2) := by decide +kernel
theorem dX12_advances_202 : decode cX12_advances 202 = .ok (.bipush 122, 2) := by decide +kernel
theorem dX12_advances_204 : decode cX12_advances 204 = .ok (.invokestatic 69, 3) := by decide +kernel
theorem dX12_advances_207 : decode cX12_advances 207 = .ok (.ifCond .eq 16, 3) := by decide +kernel
theorem dX12_advances_210 : decode cX12_advances 210 = .ok (.aload_n 0, 1) := by decide +kernel
theorem dX12_advances_211 : decode cX12_advances 211 = .ok (.dup, 1) := by decide +kernel
theorem dX12_advances_212 : decode cX12_advances 212 = .ok (.getfield 76, 3) := by decide +kernel
theorem dX12_advances_215 : decode cX12_advances 215 = .ok (.iconst 1, 1) := by decide +kernel
theorem dX12_advances_216 : decode cX12_advances 216 = .ok (.iadd, 1) := by decide +kernel
theorem dX12_advances_217 : decode cX12_advances 217 = .ok (.putfield 76, 3) := by decide +kernel
theorem dX12_advances_220 : decode cX12_advances 220 = .ok (.goto (-28), 3) := by decide +kernel
theorem dX12_advances_223 : decode cX12_advances 223 = .ok (.aload_n 0, 1) := by decide +kernel
theorem dX12_advances_224 : decode cX12_advances 224 = .ok (.iconst 1, 1) := by decide +kernel
theorem dX12_advances_225 : decode cX12_advances 225 = .ok (.putfield 89, 3) := by decide +kernel
theorem dX12_advances_228 : decode cX12_advances 228 = .ok (.aload_n 0, 1) := by decide +kernel
theorem dX12_advances_229 : decode cX12_advances 229 = .ok (.aload_n 0, 1) := by decide +kernel
theorem dX12_advances_230 : decode cX12_advances 230 = .ok (.getfield 76, 3) := by decide +kernel
theorem dX12_advances_233 : decode cX12_advances 233 = .ok (.aload_n 0, 1) := by decide +kernel
theorem dX12_advances_234 : decode cX12_advances 234 = .ok (.getfield 83, 3) := by decide +kernel
theorem dX12_advances_237 : decode cX12_advances 237 = .ok (.isub, 1) := by decide +kernel
theorem dX12_advances_238 : decode cX12_advances 238 = .ok (.iconst 1, 1) := by decide +kernel
theorem dX12_advances_239 : decode cX12_advances 239 = .ok (.if_icmp .ne 7, 3) := by decide +kernel
theorem dX12_advances_242 : decode cX12_advances 242 = .ok (.iload_n 1, 1) := by decide +kernel
theorem dX12_advances_243 : decode cX12_advances 243 = .ok (.goto 4, 3) := by decide +kernel
theorem dX12_advances_246 : decode cX12_advances 246 = .ok (.iconst 0, 1) := by decide +kernel
theorem dX12_advances_247 : decode cX12_advances 247 = .ok (.putfield 86, 3) := by decide +kernel
theorem dX12_advances_250 : decode cX12_advances 250 = .ok (.goto 28, 3) := by decide +kernel
theorem dX12_advances_253 : decode cX12_advances 253 = .ok (.aload_n 0, 1) := by decide +kernel
theorem dX12_advances_254 : decode cX12_advances 254 = .ok (.dup, 1) := by decide +kernel
theorem dX12_advances_255 : decode cX12_advances 255 = .ok (.getfield 76, 3) := by decide +kernel
theorem dX12_advances_258 : decode cX12_advances 258 = .ok (.iconst 1, 1) := by decide +kernel
theorem dX12_advances_259 : decode cX12_advances 259 = .ok (.iadd, 1) := by decide +kernel
theorem dX12_advances_260 : decode cX12_advances 260 = .ok (.putfield 76, 3) := by decide +kernel
theorem dX12_advances_263 : decode cX12_advances 263 = .ok (.aload_n 0, 1) := by decide +kernel
theorem dX12_advances_264 : decode cX12_advances 264 = .ok (.iload_n 1, 1) := by decide +kernel
theorem dX12_advances_265 : decode cX12_advances 265 = .ok (.bipush 59, 2) := by decide +kernel
theorem dX12_advances_267 : decode cX12_advances 267 = .ok (.if_icmp .ne 7, 3) := by decide +kernel
theorem dX12_advances_270 : decode cX12_advances 270 = .ok (.iconst 3, 1) := by decide +kernel
theorem dX12_advances_271 : decode cX12_advances 271 = .ok (.goto 4, 3) := by decide +kernel
theorem dX12_advances_274 : decode cX12_advances 274 = .ok (.iconst 4, 1) := by decide +kernel
theorem dX12_advances_275 : decode cX12_advances 275 = .ok (.putfield 89, 3) := by decide +kernel
theorem dX12_advances_278 : decode cX12_advances 278 = .ok (.return_, 1) := by decide +kernel
theorem dX12_isWell_0 : decode cX12_isWell 0 = .ok (.aload_n 0, 1) := by decide +kernel
theorem dX12_isWell_1 : decode cX12_isWell 1 = .ok (.getfield 92, 3) := by decide +kernel
theorem dX12_isWell_4 : decode cX12_isWell 4 = .ok (.ifCond .ge 7, 3) := by decide +kernel
theorem dX12_isWell_7 : decode cX12_isWell 7 = .ok (.iconst 1, 1) := by decide +kernel
theorem dX12_isWell_8 : decode cX12_isWell 8 = .ok (.goto 4, 3) := by decide +kernel
theorem dX12_isWell_11 : decode cX12_isWell 11 = .ok (.iconst 0, 1) := by decide +kernel
theorem dX12_isWell_12 : decode cX12_isWell 12 = .ok (.ireturn, 1) := by decide +kernel
theorem dX12_takesToken_0 : decode cX12_takesToken 0 = .ok (.aload_n 0, 1) := by decide +kernel
theorem dX12_takesToken_1 : decode cX12_takesToken 1 = .ok (.invokevirtual 95, 3) := by decide +kernel
theorem dX12_takesToken_4 : decode cX12_takesToken 4 = .ok (.ifCond .ne 5, 3) := by decide +kernel
theorem dX12_takesToken_7 : decode cX12_takesToken 7 = .ok (.iconst 0, 1) := by decide +kernel
theorem dX12_takesToken_8 : decode cX12_takesToken 8 = .ok (.ireturn, 1) := by decide +kernel
theorem dX12_takesToken_9 : decode cX12_takesToken 9 = .ok (.iload_n 1, 1) := by decide +kernel
theorem dX12_takesToken_10 : decode cX12_takesToken 10 = .ok (.ifCond .ne 13, 3) := by decide +kernel
theorem dX12_takesToken_13 : decode cX12_takesToken 13 = .ok (.aload_n 0, 1) := by decide +kernel
theorem dX12_takesToken_14 : decode cX12_takesToken 14 = .ok (.aload_n 0, 1) := by decide +kernel
theorem dX12_takesToken_15 : decode cX12_takesToken 15 = .ok (.getfield 83, 3) := by decide +kernel
theorem dX12_takesToken_18 : decode cX12_takesToken 18 = .ok (.putfield 92, 3) := by decide +kernel
theorem dX12_takesToken_21 : decode cX12_takesToken 21 = .ok (.iconst 0, 1) := by decide +kernel
theorem dX12_takesToken_22 : decode cX12_takesToken 22 = .ok (.ireturn, 1) := by decide +kernel
theorem dX12_takesToken_23 : decode cX12_takesToken 23 = .ok (.aload_n 0, 1) := by decide +kernel
theorem dX12_takesToken_24 : decode cX12_takesToken 24 = .ok (.getfield 86, 3) := by decide +kernel
theorem dX12_takesToken_27 : decode cX12_takesToken 27 = .ok (.istore_n 2, 1) := by decide +kernel
theorem dX12_takesToken_28 : decode cX12_takesToken 28 = .ok (.aload_n 0, 1) := by decide +kernel
theorem dX12_takesToken_29 : decode cX12_takesToken 29 = .ok (.invokevirtual 99, 3) := by decide +kernel
theorem dX12_takesToken_32 : decode cX12_takesToken 32 = .ok (.iload_n 2, 1) := by decide +kernel
theorem dX12_takesToken_33 : decode cX12_takesToken 33 = .ok (.ireturn, 1) := by decide +kernel
theorem dX12_number_0 : decode cX12_number 0 = .ok (.aload_n 0, 1) := by decide +kernel
theorem dX12_number_1 : decode cX12_number 1 = .ok (.aload_n 0, 1) := by decide +kernel
theorem dX12_number_2 : decode cX12_number 2 = .ok (.getfield 89, 3) := by decide +kernel
theorem dX12_number_5 : decode cX12_number 5 = .ok (.iconst 2, 1) := by decide +kernel
theorem dX12_number_6 : decode cX12_number 6 = .ok (.if_icmp .ne 19, 3) := by decide +kernel
theorem dX12_number_9 : decode cX12_number 9 = .ok (.aload_n 0, 1) := by decide +kernel
theorem dX12_number_10 : decode cX12_number 10 = .ok (.getfield 86, 3) := by decide +kernel
theorem dX12_number_13 : decode cX12_number 13 = .ok (.iload_n 1, 1) := by decide +kernel
theorem dX12_number_14 : decode cX12_number 14 = .ok (.iload_n 2, 1) := by decide +kernel
theorem dX12_number_15 : decode cX12_number 15 = .ok (.invokestatic 69, 3) := by decide +kernel
theorem dX12_number_18 : decode cX12_number 18 = .ok (.ifCond .eq 7, 3) := by decide +kernel
theorem dX12_number_21 : decode cX12_number 21 = .ok (.iconst 1, 1) := by decide +kernel
theorem dX12_number_22 : decode cX12_number 22 = .ok (.goto 4, 3) := by decide +kernel
theorem dX12_number_25 : decode cX12_number 25 = .ok (.iconst 0, 1) := by decide +kernel
theorem dX12_number_26 : decode cX12_number 26 = .ok (.invokevirtual 102, 3) := by decide +kernel
theorem dX12_number_29 : decode cX12_number 29 = .ok (.ireturn, 1) := by decide +kernel
theorem dX12_begins_0 : decode cX12_begins 0 = .ok (.aload_n 0, 1) := by decide +kernel
theorem dX12_begins_1 : decode cX12_begins 1 = .ok (.getfield 13, 3) := by decide +kernel
theorem dX12_begins_4 : decode cX12_begins 4 = .ok (.iconst 3, 1) := by decide +kernel
theorem dX12_begins_5 : decode cX12_begins 5 = .ok (.bipush 6, 2) := by decide +kernel
theorem dX12_begins_7 : decode cX12_begins 7 = .ok (.iastore, 1) := by decide +kernel
theorem dX12_begins_8 : decode cX12_begins 8 = .ok (.aload_n 0, 1) := by decide +kernel
theorem dX12_begins_9 : decode cX12_begins 9 = .ok (.getfield 13, 3) := by decide +kernel
theorem dX12_begins_12 : decode cX12_begins 12 = .ok (.iconst 4, 1) := by decide +kernel
theorem dX12_begins_13 : decode cX12_begins 13 = .ok (.iconst 0, 1) := by decide +kernel
theorem dX12_begins_14 : decode cX12_begins 14 = .ok (.iastore, 1) := by decide +kernel
theorem dX12_begins_15 : decode cX12_begins 15 = .ok (.aload_n 0, 1) := by decide +kernel
theorem dX12_begins_16 : decode cX12_begins 16 = .ok (.getfield 13, 3) := by decide +kernel
theorem dX12_begins_19 : decode cX12_begins 19 = .ok (.iconst 5, 1) := by decide +kernel
theorem dX12_begins_20 : decode cX12_begins 20 = .ok (.iconst 0, 1) := by decide +kernel
theorem dX12_begins_21 : decode cX12_begins 21 = .ok (.iastore, 1) := by decide +kernel
theorem dX12_begins_22 : decode cX12_begins 22 = .ok (.iconst 0, 1) := by decide +kernel
theorem dX12_begins_23 : decode cX12_begins 23 = .ok (.istore_n 1, 1) := by decide +kernel
theorem dX12_begins_24 : decode cX12_begins 24 = .ok (.iload_n 1, 1) := by decide +kernel
theorem dX12_begins_25 : decode cX12_begins 25 = .ok (.bipush 25, 2) := by decide +kernel
theorem dX12_begins_27 : decode cX12_begins 27 = .ok (.if_icmp .ge 16, 3) := by decide +kernel
theorem dX12_begins_30 : decode cX12_begins 30 = .ok (.aload_n 0, 1) := by decide +kernel
theorem dX12_begins_31 : decode cX12_begins 31 = .ok (.getfield 25, 3) := by decide +kernel
theorem dX12_begins_34 : decode cX12_begins 34 = .ok (.iload_n 1, 1) := by decide +kernel
theorem dX12_begins_35 : decode cX12_begins 35 = .ok (.iconst 0, 1) := by decide +kernel
theorem dX12_begins_36 : decode cX12_begins 36 = .ok (.iastore, 1) := by decide +kernel
theorem dX12_begins_37 : decode cX12_begins 37 = .ok (.iinc 1 1, 3) := by decide +kernel
theorem dX12_begins_40 : decode cX12_begins 40 = .ok (.goto (-16), 3) := by decide +kernel
theorem dX12_begins_43 : decode cX12_begins 43 = .ok (.return_, 1) := by decide +kernel
theorem dX12_mayBegin_0 : decode cX12_mayBegin 0 = .ok (.aload_n 0, 1) := by decide +kernel
theorem dX12_mayBegin_1 : decode cX12_mayBegin 1 = .ok (.getfield 86, 3) := by decide +kernel
theorem dX12_mayBegin_4 : decode cX12_mayBegin 4 = .ok (.bipush 110, 2) := by decide +kernel
theorem dX12_mayBegin_6 : decode cX12_mayBegin 6 = .ok (.if_icmp .ne 15, 3) := by decide +kernel
theorem dX12_mayBegin_9 : decode cX12_mayBegin 9 = .ok (.iload_n 1, 1) := by decide +kernel
theorem dX12_mayBegin_10 : decode cX12_mayBegin 10 = .ok (.ifCond .ne 7, 3) := by decide +kernel
theorem dX12_mayBegin_13 : decode cX12_mayBegin 13 = .ok (.iconst 1, 1) := by decide +kernel
theorem dX12_mayBegin_14 : decode cX12_mayBegin 14 = .ok (.goto 60, 3) := by decide +kernel
theorem dX12_mayBegin_17 : decode cX12_mayBegin 17 = .ok (.iconst 0, 1) := by decide +kernel
theorem dX12_mayBegin_18 : decode cX12_mayBegin 18 = .ok (.goto 56, 3) := by decide +kernel
theorem dX12_mayBegin_21 : decode cX12_mayBegin 21 = .ok (.aload_n 0, 1) := by decide +kernel
theorem dX12_mayBegin_22 : decode cX12_mayBegin 22 = .ok (.getfield 86, 3) := by decide +kernel
theorem dX12_mayBegin_25 : decode cX12_mayBegin 25 = .ok (.bipush 103, 2) := by decide +kernel
theorem dX12_mayBegin_27 : decode cX12_mayBegin 27 = .ok (.if_icmp .ne 22, 3) := by decide +kernel
theorem dX12_mayBegin_30 : decode cX12_mayBegin 30 = .ok (.aload_n 0, 1) := by decide +kernel
theorem dX12_mayBegin_31 : decode cX12_mayBegin 31 = .ok (.getfield 13, 3) := by decide +kernel
theorem dX12_mayBegin_34 : decode cX12_mayBegin 34 = .ok (.iconst 4, 1) := by decide +kernel
theorem dX12_mayBegin_35 : decode cX12_mayBegin 35 = .ok (.iaload, 1) := by decide +kernel
theorem dX12_mayBegin_36 : decode cX12_mayBegin 36 = .ok (.bipush 6, 2) := by decide +kernel
theorem dX12_mayBegin_38 : decode cX12_mayBegin 38 = .ok (.if_icmp .ge 7, 3) := by decide +kernel
theorem dX12_mayBegin_41 : decode cX12_mayBegin 41 = .ok (.iconst 1, 1) := by decide +kernel
theorem dX12_mayBegin_42 : decode cX12_mayBegin 42 = .ok (.goto 32, 3) := by decide +kernel
theorem dX12_mayBegin_45 : decode cX12_mayBegin 45 = .ok (.iconst 0, 1) := by decide +kernel
theorem dX12_mayBegin_46 : decode cX12_mayBegin 46 = .ok (.goto 28, 3) := by decide +kernel
theorem dX12_mayBegin_49 : decode cX12_mayBegin 49 = .ok (.aload_n 0, 1) := by decide +kernel
theorem dX12_mayBegin_50 : decode cX12_mayBegin 50 = .ok (.getfield 86, 3) := by decide +kernel
theorem dX12_mayBegin_53 : decode cX12_mayBegin 53 = .ok (.bipush 100, 2) := by decide +kernel
theorem dX12_mayBegin_55 : decode cX12_mayBegin 55 = .ok (.if_icmp .ne 18, 3) := by decide +kernel
theorem dX12_mayBegin_58 : decode cX12_mayBegin 58 = .ok (.aload_n 0, 1) := by decide +kernel
theorem dX12_mayBegin_59 : decode cX12_mayBegin 59 = .ok (.getfield 13, 3) := by decide +kernel
theorem dX12_mayBegin_62 : decode cX12_mayBegin 62 = .ok (.iconst 5, 1) := by decide +kernel
theorem dX12_mayBegin_63 : decode cX12_mayBegin 63 = .ok (.iaload, 1) := by decide +kernel
theorem dX12_mayBegin_64 : decode cX12_mayBegin 64 = .ok (.bipush 6, 2) := by decide +kernel
theorem dX12_mayBegin_66 : decode cX12_mayBegin 66 = .ok (.if_icmp .ge 7, 3) := by decide +kernel
theorem dX12_mayBegin_69 : decode cX12_mayBegin 69 = .ok (.iconst 1, 1) := by decide +kernel
theorem dX12_mayBegin_70 : decode cX12_mayBegin 70 = .ok (.goto 4, 3) := by decide +kernel
theorem dX12_mayBegin_73 : decode cX12_mayBegin 73 = .ok (.iconst 0, 1) := by decide +kernel
theorem dX12_mayBegin_74 : decode cX12_mayBegin 74 = .ok (.ireturn, 1) := by decide +kernel
theorem dX12_free_0 : decode cX12_free 0 = .ok (.aload_n 0, 1) := by decide +kernel
theorem dX12_free_1 : decode cX12_free 1 = .ok (.getfield 89, 3) := by decide +kernel
theorem dX12_free_4 : decode cX12_free 4 = .ok (.iconst 2, 1) := by decide +kernel
theorem dX12_free_5 : decode cX12_free 5 = .ok (.if_icmp .ne 26, 3) := by decide +kernel
theorem dX12_free_8 : decode cX12_free 8 = .ok (.aload_n 0, 1) := by decide +kernel
theorem dX12_free_9 : decode cX12_free 9 = .ok (.getfield 86, 3) := by decide +kernel
theorem dX12_free_12 : decode cX12_free 12 = .ok (.iconst 0, 1) := by decide +kernel
theorem dX12_free_13 : decode cX12_free 13 = .ok (.aload_n 0, 1) := by decide +kernel
theorem dX12_free_14 : decode cX12_free 14 = .ok (.getfield 13, 3) := by decide +kernel
theorem dX12_free_17 : decode cX12_free 17 = .ok (.iconst 3, 1) := by decide +kernel
theorem dX12_free_18 : decode cX12_free 18 = .ok (.iaload, 1) := by decide +kernel
theorem dX12_free_19 : decode cX12_free 19 = .ok (.iconst 1, 1) := by decide +kernel
theorem dX12_free_20 : decode cX12_free 20 = .ok (.isub, 1) := by decide +kernel
theorem dX12_free_21 : decode cX12_free 21 = .ok (.invokestatic 69, 3) := by decide +kernel
theorem dX12_free_24 : decode cX12_free 24 = .ok (.ifCond .eq 7, 3) := by decide +kernel
theorem dX12_free_27 : decode cX12_free 27 = .ok (.iconst 1, 1) := by decide +kernel
theorem dX12_free_28 : decode cX12_free 28 = .ok (.goto 4, 3) := by decide +kernel
theorem dX12_free_31 : decode cX12_free 31 = .ok (.iconst 0, 1) := by decide +kernel
theorem dX12_free_32 : decode cX12_free 32 = .ok (.istore_n 3, 1) := by decide +kernel
theorem dX12_free_33 : decode cX12_free 33 = .ok (.iconst 0, 1) := by decide +kernel
theorem dX12_free_34 : decode cX12_free 34 = .ok (.istore 4, 2) := by decide +kernel
theorem dX12_free_36 : decode cX12_free 36 = .ok (.iload 4, 2) := by decide +kernel
theorem dX12_free_38 : decode cX12_free 38 = .ok (.iload_n 2, 1) := by decide +kernel
theorem dX12_free_39 : decode cX12_free 39 = .ok (.if_icmp .ge 35, 3) := by decide +kernel
theorem dX12_free_42 : decode cX12_free 42 = .ok (.iload_n 3, 1) := by decide +kernel
theorem dX12_free_43 : decode cX12_free 43 = .ok (.ifCond .eq 31, 3) := by decide +kernel
theorem dX12_free_46 : decode cX12_free 46 = .ok (.aload_n 0, 1) := by decide +kernel
theorem dX12_free_47 : decode cX12_free 47 = .ok (.getfield 25, 3) := by decide +kernel
theorem dX12_free_50 : decode cX12_free 50 = .ok (.iload_n 1, 1) := by decide +kernel
theorem dX12_free_51 : decode cX12_free 51 = .ok (.iload 4, 2) := by decide +kernel
theorem dX12_free_53 : decode cX12_free 53 = .ok (.iadd, 1) := by decide +kernel
theorem dX12_free_54 : decode cX12_free 54 = .ok (.iaload, 1) := by decide +kernel
theorem dX12_free_55 : decode cX12_free 55 = .ok (.aload_n 0, 1) := by decide +kernel
theorem dX12_free_56 : decode cX12_free 56 = .ok (.getfield 86, 3) := by decide +kernel
theorem dX12_free_59 : decode cX12_free 59 = .ok (.if_icmp .eq 7, 3) := by decide +kernel
theorem dX12_free_62 : decode cX12_free 62 = .ok (.iconst 1, 1) := by decide +kernel
theorem dX12_free_63 : decode cX12_free 63 = .ok (.goto 4, 3) := by decide +kernel
theorem dX12_free_66 : decode cX12_free 66 = .ok (.iconst 0, 1) := by decide +kernel
theorem dX12_free_67 : decode cX12_free 67 = .ok (.istore_n 3, 1) := by decide +kernel
theorem dX12_free_68 : decode cX12_free 68 = .ok (.iinc 4 1, 3) := by decide +kernel
theorem dX12_free_71 : decode cX12_free 71 = .ok (.goto (-35), 3) := by decide +kernel
theorem dX12_free_74 : decode cX12_free 74 = .ok (.aload_n 0, 1) := by decide +kernel
theorem dX12_free_75 : decode cX12_free 75 = .ok (.iload_n 3, 1) := by decide +kernel
theorem dX12_free_76 : decode cX12_free 76 = .ok (.invokevirtual 102, 3) := by decide +kernel
theorem dX12_free_79 : decode cX12_free 79 = .ok (.ireturn, 1) := by decide +kernel
theorem dX12_lettersRow_0 : decode cX12_lettersRow 0 = .ok (.aload_n 0, 1) := by decide +kernel
theorem dX12_lettersRow_1 : decode cX12_lettersRow 1 = .ok (.getfield 76, 3) := by decide +kernel
theorem dX12_lettersRow_4 : decode cX12_lettersRow 4 = .ok (.aload_n 0, 1) := by decide +kernel
theorem dX12_lettersRow_5 : decode cX12_lettersRow 5 = .ok (.getfield 83, 3) := by decide +kernel
theorem dX12_lettersRow_8 : decode cX12_lettersRow 8 = .ok (.isub, 1) := by decide +kernel
theorem dX12_lettersRow_9 : decode cX12_lettersRow 9 = .ok (.istore_n 1, 1) := by decide +kernel
theorem dX12_lettersRow_10 : decode cX12_lettersRow 10 = .ok (.aload_n 0, 1) := by decide +kernel
theorem dX12_lettersRow_11 : decode cX12_lettersRow 11 = .ok (.invokevirtual 95, 3) := by decide +kernel
theorem dX12_lettersRow_14 : decode cX12_lettersRow 14 = .ok (.ifCond .eq 25, 3) := by decide +kernel
theorem dX12_lettersRow_17 : decode cX12_lettersRow 17 = .ok (.aload_n 0, 1) := by decide +kernel
theorem dX12_lettersRow_18 : decode cX12_lettersRow 18 = .ok (.getfield 89, 3) := by decide +kernel
theorem dX12_lettersRow_21 : decode cX12_lettersRow 21 = .ok (.iconst 1, 1) := by decide +kernel
theorem dX12_lettersRow_22 : decode cX12_lettersRow 22 = .ok (.if_icmp .ne 17, 3) := by decide +kernel
theorem dX12_lettersRow_25 : decode cX12_lettersRow 25 = .ok (.iload_n 1, 1) := by decide +kernel
theorem dX12_lettersRow_26 : decode cX12_lettersRow 26 = .ok (.iconst 1, 1) := by decide +kernel
theorem dX12_lettersRow_27 : decode cX12_lettersRow 27 = .ok (.bipush 6, 2) := by decide +kernel
theorem dX12_lettersRow_29 : decode cX12_lettersRow 29 = .ok (.invokestatic 69, 3) := by decide +kernel
theorem dX12_lettersRow_32 : decode cX12_lettersRow 32 = .ok (.ifCond .eq 7, 3) := by decide +kernel
theorem dX12_lettersRow_35 : decode cX12_lettersRow 35 = .ok (.iconst 1, 1) := by decide +kernel
theorem dX12_lettersRow_36 : decode cX12_lettersRow 36 = .ok (.goto 4, 3) := by decide +kernel
theorem dX12_lettersRow_39 : decode cX12_lettersRow 39 = .ok (.iconst 0, 1) := by decide +kernel
theorem dX12_lettersRow_40 : decode cX12_lettersRow 40 = .ok (.istore_n 2, 1) := by decide +kernel
theorem dX12_lettersRow_41 : decode cX12_lettersRow 41 = .ok (.iconst 0, 1) := by decide +kernel
theorem dX12_lettersRow_42 : decode cX12_lettersRow 42 = .ok (.istore_n 3, 1) := by decide +kernel
theorem dX12_lettersRow_43 : decode cX12_lettersRow 43 = .ok (.iconst 0, 1) := by decide +kernel
theorem dX12_lettersRow_44 : decode cX12_lettersRow 44 = .ok (.istore 4, 2) := by decide +kernel
theorem dX12_lettersRow_46 : decode cX12_lettersRow 46 = .ok (.iload 4, 2) := by decide +kernel
theorem dX12_lettersRow_48 : decode cX12_lettersRow 48 = .ok (.iload_n 1, 1) := by decide +kernel
theorem dX12_lettersRow_49 : decode cX12_lettersRow 49 = .ok (.if_icmp .ge 54, 3) := by decide +kernel
theorem dX12_lettersRow_52 : decode cX12_lettersRow 52 = .ok (.iload_n 2, 1) := by decide +kernel
theorem dX12_lettersRow_53 : decode cX12_lettersRow 53 = .ok (.ifCond .eq 50, 3) := by decide +kernel
theorem dX12_lettersRow_56 : decode cX12_lettersRow 56 = .ok (.aload_n 0, 1) := by decide +kernel
theorem dX12_lettersRow_57 : decode cX12_lettersRow 57 = .ok (.aload_n 0, 1) := by decide +kernel
theorem dX12_lettersRow_58 : decode cX12_lettersRow 58 = .ok (.getfield 83, 3) := by decide +kernel
theorem dX12_lettersRow_61 : decode cX12_lettersRow 61 = .ok (.iload 4, 2) := by decide +kernel
theorem dX12_lettersRow_63 : decode cX12_lettersRow 63 = .ok (.iadd, 1) := by decide +kernel
theorem dX12_lettersRow_64 : decode cX12_lettersRow 64 = .ok (.invokevirtual 79, 3) := by decide +kernel
theorem dX12_lettersRow_67 : decode cX12_lettersRow 67 = .ok (.istore 5, 2) := by decide +kernel
theorem dX12_lettersRow_69 : decode cX12_lettersRow 69 = .ok (.iload 5, 2) := by decide +kernel
theorem dX12_lettersRow_71 : decode cX12_lettersRow 71 = .ok (.bipush 97, 2) := by decide +kernel
theorem dX12_lettersRow_73 : decode cX12_lettersRow 73 = .ok (.bipush 102, 2) := by decide +kernel
theorem dX12_lettersRow_75 : decode cX12_lettersRow 75 = .ok (.invokestatic 69, 3) := by decide +kernel
theorem dX12_lettersRow_78 : decode cX12_lettersRow 78 = .ok (.istore_n 2, 1) := by decide +kernel
theorem dX12_lettersRow_79 : decode cX12_lettersRow 79 = .ok (.iload_n 3, 1) := by decide +kernel
theorem dX12_lettersRow_80 : decode cX12_lettersRow 80 = .ok (.iload_n 2, 1) := by decide +kernel
theorem dX12_lettersRow_81 : decode cX12_lettersRow 81 = .ok (.ifCond .eq 13, 3) := by decide +kernel
theorem dX12_lettersRow_84 : decode cX12_lettersRow 84 = .ok (.iconst 1, 1) := by decide +kernel
theorem dX12_lettersRow_85 : decode cX12_lettersRow 85 = .ok (.iload 5, 2) := by decide +kernel
theorem dX12_lettersRow_87 : decode cX12_lettersRow 87 = .ok (.bipush 97, 2) := by decide +kernel
theorem dX12_lettersRow_89 : decode cX12_lettersRow 89 = .ok (.isub, 1) := by decide +kernel
theorem dX12_lettersRow_90 : decode cX12_lettersRow 90 = .ok (.ishl, 1) := by decide +kernel
theorem dX12_lettersRow_91 : decode cX12_lettersRow 91 = .ok (.goto 4, 3) := by decide +kernel
theorem dX12_lettersRow_94 : decode cX12_lettersRow 94 = .ok (.iconst 0, 1) := by decide +kernel
theorem dX12_lettersRow_95 : decode cX12_lettersRow 95 = .ok (.ior, 1) := by decide +kernel
theorem dX12_lettersRow_96 : decode cX12_lettersRow 96 = .ok (.istore_n 3, 1) := by decide +kernel
theorem dX12_lettersRow_97 : decode cX12_lettersRow 97 = .ok (.iinc 4 1, 3) := by decide +kernel
theorem dX12_lettersRow_100 : decode cX12_lettersRow 100 = .ok (.goto (-54), 3) := by decide +kernel
theorem dX12_lettersRow_103 : decode cX12_lettersRow 103 = .ok (.aload_n 0, 1) := by decide +kernel
theorem dX12_lettersRow_104 : decode cX12_lettersRow 104 = .ok (.iload_n 2, 1) := by decide +kernel
theorem dX12_lettersRow_105 : decode cX12_lettersRow 105 = .ok (.invokevirtual 102, 3) := by decide +kernel
theorem dX12_lettersRow_108 : decode cX12_lettersRow 108 = .ok (.pop, 1) := by decide +kernel
theorem dX12_lettersRow_109 : decode cX12_lettersRow 109 = .ok (.iload_n 3, 1) := by decide +kernel
theorem dX12_lettersRow_110 : decode cX12_lettersRow 110 = .ok (.ireturn, 1) := by decide +kernel
theorem dX12_readsItem_0 : decode cX12_readsItem 0 = .ok (.iload_n 1, 1) := by decide +kernel
theorem dX12_readsItem_1 : decode cX12_readsItem 1 = .ok (.bipush 110, 2) := by decide +kernel
theorem dX12_readsItem_3 : decode cX12_readsItem 3 = .ok (.if_icmp .ne 19, 3) := by decide +kernel
theorem dX12_readsItem_6 : decode cX12_readsItem 6 = .ok (.aload_n 0, 1) := by decide +kernel
theorem dX12_readsItem_7 : decode cX12_readsItem 7 = .ok (.getfield 13, 3) := by decide +kernel
theorem dX12_readsItem_10 : decode cX12_readsItem 10 = .ok (.iconst 3, 1) := by decide +kernel
theorem dX12_readsItem_11 : decode cX12_readsItem 11 = .ok (.aload_n 0, 1) := by decide +kernel
theorem dX12_readsItem_12 : decode cX12_readsItem 12 = .ok (.iconst 3, 1) := by decide +kernel
theorem dX12_readsItem_13 : decode cX12_readsItem 13 = .ok (.bipush 9, 2) := by decide +kernel
theorem dX12_readsItem_15 : decode cX12_readsItem 15 = .ok (.invokevirtual 106, 3) := by decide +kernel
theorem dX12_readsItem_18 : decode cX12_readsItem 18 = .ok (.iastore, 1) := by decide +kernel
theorem dX12_readsItem_19 : decode cX12_readsItem 19 = .ok (.goto 136, 3) := by decide +kernel
theorem dX12_readsItem_22 : decode cX12_readsItem 22 = .ok (.iload_n 1, 1) := by decide +kernel
theorem dX12_readsItem_23 : decode cX12_readsItem 23 = .ok (.bipush 103, 2) := by decide +kernel
theorem dX12_readsItem_25 : decode cX12_readsItem 25 = .ok (.if_icmp .ne 67, 3) := by decide +kernel
theorem dX12_readsItem_28 : decode cX12_readsItem 28 = .ok (.aload_n 0, 1) := by decide +kernel
theorem dX12_readsItem_29 : decode cX12_readsItem 29 = .ok (.getfield 13, 3) := by decide +kernel
theorem dX12_readsItem_32 : decode cX12_readsItem 32 = .ok (.iconst 4, 1) := by decide +kernel
theorem dX12_readsItem_33 : decode cX12_readsItem 33 = .ok (.iaload, 1) := by decide +kernel
theorem dX12_readsItem_34 : decode cX12_readsItem 34 = .ok (.istore_n 2, 1) := by decide +kernel
theorem dX12_readsItem_35 : decode cX12_readsItem 35 = .ok (.aload_n 0, 1) := by decide +kernel
theorem dX12_readsItem_36 : decode cX12_readsItem 36 = .ok (.getfield 25, 3) := by decide +kernel
theorem dX12_readsItem_39 : decode cX12_readsItem 39 = .ok (.bipush 13, 2) := by decide +kernel
theorem dX12_readsItem_41 : decode cX12_readsItem 41 = .ok (.iload_n 2, 1) := by decide +kernel
theorem dX12_readsItem_42 : decode cX12_readsItem 42 = .ok (.iadd, 1) := by decide +kernel
theorem dX12_readsItem_43 : decode cX12_readsItem 43 = .ok (.aload_n 0, 1) := by decide +kernel
theorem dX12_readsItem_44 : decode cX12_readsItem 44 = .ok (.bipush 13, 2) := by decide +kernel
theorem dX12_readsItem_46 : decode cX12_readsItem 46 = .ok (.iload_n 2, 1) := by decide +kernel
theorem dX12_readsItem_47 : decode cX12_readsItem 47 = .ok (.invokevirtual 110, 3) := by decide +kernel
theorem dX12_readsItem_50 : decode cX12_readsItem 50 = .ok (.iastore, 1) := by decide +kernel
theorem dX12_readsItem_51 : decode cX12_readsItem 51 = .ok (.aload_n 0, 1) := by decide +kernel
theorem dX12_readsItem_52 : decode cX12_readsItem 52 = .ok (.getfield 16, 3) := by decide +kernel
theorem dX12_readsItem_55 : decode cX12_readsItem 55 = .ok (.bipush 6, 2) := by decide +kernel
theorem dX12_readsItem_57 : decode cX12_readsItem 57 = .ok (.iload_n 2, 1) := by decide +kernel
theorem dX12_readsItem_58 : decode cX12_readsItem 58 = .ok (.iadd, 1) := by decide +kernel
theorem dX12_readsItem_59 : decode cX12_readsItem 59 = .ok (.aload_n 0, 1) := by decide +kernel
theorem dX12_readsItem_60 : decode cX12_readsItem 60 = .ok (.iconst 0, 1) := by decide +kernel
theorem dX12_readsItem_61 : decode cX12_readsItem 61 = .ok (.iconst 2, 1) := by decide +kernel
theorem dX12_readsItem_62 : decode cX12_readsItem 62 = .ok (.invokevirtual 106, 3) := by decide +kernel
theorem dX12_readsItem_65 : decode cX12_readsItem 65 = .ok (.iastore, 1) := by decide +kernel
theorem dX12_readsItem_66 : decode cX12_readsItem 66 = .ok (.aload_n 0, 1) := by decide +kernel
theorem dX12_readsItem_67 : decode cX12_readsItem 67 = .ok (.getfield 19, 3) := by decide +kernel
theorem dX12_readsItem_70 : decode cX12_readsItem 70 = .ok (.bipush 6, 2) := by decide +kernel
theorem dX12_readsItem_72 : decode cX12_readsItem 72 = .ok (.iload_n 2, 1) := by decide +kernel
theorem dX12_readsItem_73 : decode cX12_readsItem 73 = .ok (.iadd, 1) := by decide +kernel
theorem dX12_readsItem_74 : decode cX12_readsItem 74 = .ok (.aload_n 0, 1) := by decide +kernel
theorem dX12_readsItem_75 : decode cX12_readsItem 75 = .ok (.invokevirtual 113, 3) := by decide +kernel
theorem dX12_readsItem_78 : decode cX12_readsItem 78 = .ok (.iastore, 1) := by decide +kernel
theorem dX12_readsItem_79 : decode cX12_readsItem 79 = .ok (.aload_n 0, 1) := by decide +kernel
theorem dX12_readsItem_80 : decode cX12_readsItem 80 = .ok (.getfield 13, 3) := by decide +kernel
theorem dX12_readsItem_83 : decode cX12_readsItem 83 = .ok (.iconst 4, 1) := by decide +kernel
theorem dX12_readsItem_84 : decode cX12_readsItem 84 = .ok (.dup2, 1) := by decide +kernel
theorem dX12_readsItem_85 : decode cX12_readsItem 85 = .ok (.iaload, 1) := by decide +kernel
theorem dX12_readsItem_86 : decode cX12_readsItem 86 = .ok (.iconst 1, 1) := by decide +kernel
theorem dX12_readsItem_87 : decode cX12_readsItem 87 = .ok (.iadd, 1) := by decide +kernel
theorem dX12_readsItem_88 : decode cX12_readsItem 88 = .ok (.iastore, 1) := by decide +kernel
theorem dX12_readsItem_89 : decode cX12_readsItem 89 = .ok (.goto 66, 3) := by decide +kernel
theorem dX12_readsItem_92 : decode cX12_readsItem 92 = .ok (.aload_n 0, 1) := by decide +kernel
theorem dX12_readsItem_93 : decode cX12_readsItem 93 = .ok (.getfield 13, 3) := by decide +kernel
theorem dX12_readsItem_96 : decode cX12_readsItem 96 = .ok (.iconst 5, 1) := by decide +kernel
theorem dX12_readsItem_97 : decode cX12_readsItem 97 = .ok (.iaload, 1) := by decide +kernel
theorem dX12_readsItem_98 : decode cX12_readsItem 98 = .ok (.istore_n 2, 1) := by decide +kernel
theorem dX12_readsItem_99 : decode cX12_readsItem 99 = .ok (.aload_n 0, 1) := by decide +kernel
theorem dX12_readsItem_100 : decode cX12_readsItem 100 = .ok (.getfield 25, 3) := by decide +kernel
theorem dX12_readsItem_103 : decode cX12_readsItem 103 = .ok (.bipush 7, 2) := by decide +kernel
theorem dX12_readsItem_105 : decode cX12_readsItem 105 = .ok (.iload_n 2, 1) := by decide +kernel
theorem dX12_readsItem_106 : decode cX12_readsItem 106 = .ok (.iadd, 1) := by decide +kernel
theorem dX12_readsItem_107 : decode cX12_readsItem 107 = .ok (.aload_n 0, 1) := by decide +kernel
theorem dX12_readsItem_108 : decode cX12_readsItem 108 = .ok (.bipush 7, 2) := by decide +kernel
theorem dX12_readsItem_110 : decode cX12_readsItem 110 = .ok (.iload_n 2, 1) := by decide +kernel
theorem dX12_readsItem_111 : decode cX12_readsItem 111 = .ok (.invokevirtual 110, 3) := by decide +kernel
theorem dX12_readsItem_114 : decode cX12_readsItem 114 = .ok (.iastore, 1) := by decide +kernel
theorem dX12_readsItem_115 : decode cX12_readsItem 115 = .ok (.aload_n 0, 1) := by decide +kernel
theorem dX12_readsItem_116 : decode cX12_readsItem 116 = .ok (.getfield 25, 3) := by decide +kernel
theorem dX12_readsItem_119 : decode cX12_readsItem 119 = .ok (.iconst 1, 1) := by decide +kernel
theorem dX12_readsItem_120 : decode cX12_readsItem 120 = .ok (.iload_n 2, 1) := by decide +kernel
theorem dX12_readsItem_121 : decode cX12_readsItem 121 = .ok (.iadd, 1) := by decide +kernel
theorem dX12_readsItem_122 : decode cX12_readsItem 122 = .ok (.aload_n 0, 1) := by decide +kernel
theorem dX12_readsItem_123 : decode cX12_readsItem 123 = .ok (.iconst 1, 1) := by decide +kernel
theorem dX12_readsItem_124 : decode cX12_readsItem 124 = .ok (.bipush 9, 2) := by decide +kernel
theorem dX12_readsItem_126 : decode cX12_readsItem 126 = .ok (.invokevirtual 106, 3) := by decide +kernel
theorem dX12_readsItem_129 : decode cX12_readsItem 129 = .ok (.iastore, 1) := by decide +kernel
theorem dX12_readsItem_130 : decode cX12_readsItem 130 = .ok (.aload_n 0, 1) := by decide +kernel
theorem dX12_readsItem_131 : decode cX12_readsItem 131 = .ok (.getfield 22, 3) := by decide +kernel
theorem dX12_readsItem_134 : decode cX12_readsItem 134 = .ok (.bipush 6, 2) := by decide +kernel
theorem dX12_readsItem_136 : decode cX12_readsItem 136 = .ok (.iload_n 2, 1) := by decide +kernel
theorem dX12_readsItem_137 : decode cX12_readsItem 137 = .ok (.iadd, 1) := by decide +kernel
theorem dX12_readsItem_138 : decode cX12_readsItem 138 = .ok (.aload_n 0, 1) := by decide +kernel
theorem dX12_readsItem_139 : decode cX12_readsItem 139 = .ok (.iconst 0, 1) := by decide +kernel
theorem dX12_readsItem_140 : decode cX12_readsItem 140 = .ok (.iconst 1, 1) := by decide +kernel
theorem dX12_readsItem_141 : decode cX12_readsItem 141 = .ok (.invokevirtual 106, 3) := by decide +kernel
theorem dX12_readsItem_144 : decode cX12_readsItem 144 = .ok (.iastore, 1) := by decide +kernel
theorem dX12_readsItem_145 : decode cX12_readsItem 145 = .ok (.aload_n 0, 1) := by decide +kernel
theorem dX12_readsItem_146 : decode cX12_readsItem 146 = .ok (.getfield 13, 3) := by decide +kernel
theorem dX12_readsItem_149 : decode cX12_readsItem 149 = .ok (.iconst 5, 1) := by decide +kernel
theorem dX12_readsItem_150 : decode cX12_readsItem 150 = .ok (.dup2, 1) := by decide +kernel
theorem dX12_readsItem_151 : decode cX12_readsItem 151 = .ok (.iaload, 1) := by decide +kernel
theorem dX12_readsItem_152 : decode cX12_readsItem 152 = .ok (.iconst 1, 1) := by decide +kernel
theorem dX12_readsItem_153 : decode cX12_readsItem 153 = .ok (.iadd, 1) := by decide +kernel
theorem dX12_readsItem_154 : decode cX12_readsItem 154 = .ok (.iastore, 1) := by decide +kernel
theorem dX12_readsItem_155 : decode cX12_readsItem 155 = .ok (.return_, 1) := by decide +kernel
theorem dX12_table_0 : decode cX12_table 0 = .ok (.aload_n 0, 1) := by decide +kernel
theorem dX12_table_1 : decode cX12_table 1 = .ok (.iconst 0, 1) := by decide +kernel
theorem dX12_table_2 : decode cX12_table 2 = .ok (.putfield 65, 3) := by decide +kernel
theorem dX12_table_5 : decode cX12_table 5 = .ok (.aload_n 0, 1) := by decide +kernel
theorem dX12_table_6 : decode cX12_table 6 = .ok (.iconst (-1), 1) := by decide +kernel
theorem dX12_table_7 : decode cX12_table 7 = .ok (.putfield 92, 3) := by decide +kernel
theorem dX12_table_10 : decode cX12_table 10 = .ok (.aload_n 0, 1) := by decide +kernel
theorem dX12_table_11 : decode cX12_table 11 = .ok (.iconst 0, 1) := by decide +kernel
theorem dX12_table_12 : decode cX12_table 12 = .ok (.putfield 76, 3) := by decide +kernel
theorem dX12_table_15 : decode cX12_table 15 = .ok (.aload_n 0, 1) := by decide +kernel
theorem dX12_table_16 : decode cX12_table 16 = .ok (.invokevirtual 59, 3) := by decide +kernel
theorem dX12_table_19 : decode cX12_table 19 = .ok (.iconst 0, 1) := by decide +kernel
theorem dX12_table_20 : decode cX12_table 20 = .ok (.istore_n 1, 1) := by decide +kernel
theorem dX12_table_21 : decode cX12_table 21 = .ok (.aload_n 0, 1) := by decide +kernel
theorem dX12_table_22 : decode cX12_table 22 = .ok (.invokevirtual 99, 3) := by decide +kernel
theorem dX12_table_25 : decode cX12_table 25 = .ok (.aload_n 0, 1) := by decide +kernel
theorem dX12_table_26 : decode cX12_table 26 = .ok (.invokevirtual 95, 3) := by decide +kernel
theorem dX12_table_29 : decode cX12_table 29 = .ok (.ifCond .eq 72, 3) := by decide +kernel
theorem dX12_table_32 : decode cX12_table 32 = .ok (.aload_n 0, 1) := by decide +kernel
theorem dX12_table_33 : decode cX12_table 33 = .ok (.getfield 89, 3) := by decide +kernel
theorem dX12_table_36 : decode cX12_table 36 = .ok (.ifCond .eq 65, 3) := by decide +kernel
theorem dX12_table_39 : decode cX12_table 39 = .ok (.aload_n 0, 1) := by decide +kernel
theorem dX12_table_40 : decode cX12_table 40 = .ok (.aload_n 0, 1) := by decide +kernel
theorem dX12_table_41 : decode cX12_table 41 = .ok (.getfield 89, 3) := by decide +kernel
theorem dX12_table_44 : decode cX12_table 44 = .ok (.iconst 1, 1) := by decide +kernel
theorem dX12_table_45 : decode cX12_table 45 = .ok (.if_icmp .ne 15, 3) := by decide +kernel
theorem dX12_table_48 : decode cX12_table 48 = .ok (.aload_n 0, 1) := by decide +kernel
theorem dX12_table_49 : decode cX12_table 49 = .ok (.iload_n 1, 1) := by decide +kernel
theorem dX12_table_50 : decode cX12_table 50 = .ok (.invokevirtual 117, 3) := by decide +kernel
theorem dX12_table_53 : decode cX12_table 53 = .ok (.ifCond .eq 7, 3) := by decide +kernel
theorem dX12_table_56 : decode cX12_table 56 = .ok (.iconst 1, 1) := by decide +kernel
theorem dX12_table_57 : decode cX12_table 57 = .ok (.goto 4, 3) := by decide +kernel
theorem dX12_table_60 : decode cX12_table 60 = .ok (.iconst 0, 1) := by decide +kernel
theorem dX12_table_61 : decode cX12_table 61 = .ok (.invokevirtual 102, 3) := by decide +kernel
theorem dX12_table_64 : decode cX12_table 64 = .ok (.istore_n 2, 1) := by decide +kernel
theorem dX12_table_65 : decode cX12_table 65 = .ok (.aload_n 0, 1) := by decide +kernel
theorem dX12_table_66 : decode cX12_table 66 = .ok (.invokevirtual 95, 3) := by decide +kernel
theorem dX12_table_69 : decode cX12_table 69 = .ok (.ifCond .eq 8, 3) := by decide +kernel
theorem dX12_table_72 : decode cX12_table 72 = .ok (.aload_n 0, 1) := by decide +kernel
theorem dX12_table_73 : decode cX12_table 73 = .ok (.iload_n 2, 1) := by decide +kernel
theorem dX12_table_74 : decode cX12_table 74 = .ok (.invokevirtual 121, 3) := by decide +kernel
theorem dX12_table_77 : decode cX12_table 77 = .ok (.aload_n 0, 1) := by decide +kernel
theorem dX12_table_78 : decode cX12_table 78 = .ok (.aload_n 0, 1) := by decide +kernel
theorem dX12_table_79 : decode cX12_table 79 = .ok (.getfield 89, 3) := by decide +kernel
theorem dX12_table_82 : decode cX12_table 82 = .ok (.iconst 3, 1) := by decide +kernel
theorem dX12_table_83 : decode cX12_table 83 = .ok (.if_icmp .ne 7, 3) := by decide +kernel
theorem dX12_table_86 : decode cX12_table 86 = .ok (.iconst 1, 1) := by decide +kernel
theorem dX12_table_87 : decode cX12_table 87 = .ok (.goto 4, 3) := by decide +kernel
theorem dX12_table_90 : decode cX12_table 90 = .ok (.iconst 0, 1) := by decide +kernel
theorem dX12_table_91 : decode cX12_table 91 = .ok (.invokevirtual 102, 3) := by decide +kernel
theorem dX12_table_94 : decode cX12_table 94 = .ok (.pop, 1) := by decide +kernel
theorem dX12_table_95 : decode cX12_table 95 = .ok (.iinc 1 1, 3) := by decide +kernel
theorem dX12_table_98 : decode cX12_table 98 = .ok (.goto (-73), 3) := by decide +kernel
theorem dX12_table_101 : decode cX12_table 101 = .ok (.aload_n 0, 1) := by decide +kernel
theorem dX12_table_102 : decode cX12_table 102 = .ok (.invokevirtual 95, 3) := by decide +kernel
theorem dX12_table_105 : decode cX12_table 105 = .ok (.ifCond .ne 11, 3) := by decide +kernel
theorem dX12_table_108 : decode cX12_table 108 = .ok (.bipush (-10), 2) := by decide +kernel
theorem dX12_table_110 : decode cX12_table 110 = .ok (.aload_n 0, 1) := by decide +kernel
theorem dX12_table_111 : decode cX12_table 111 = .ok (.getfield 92, 3) := by decide +kernel
theorem dX12_table_114 : decode cX12_table 114 = .ok (.isub, 1) := by decide +kernel
theorem dX12_table_115 : decode cX12_table 115 = .ok (.ireturn, 1) := by decide +kernel
theorem dX12_table_116 : decode cX12_table 116 = .ok (.aload_n 0, 1) := by decide +kernel
theorem dX12_table_117 : decode cX12_table 117 = .ok (.invokevirtual 62, 3) := by decide +kernel
theorem dX12_table_120 : decode cX12_table 120 = .ok (.iload_n 1, 1) := by decide +kernel
theorem dX12_table_121 : decode cX12_table 121 = .ok (.ireturn, 1) := by decide +kernel
theorem dX12_settles_0 : decode cX12_settles 0 = .ok (.iconst 0, 1) := by decide +kernel
theorem dX12_settles_1 : decode cX12_settles 1 = .ok (.istore_n 1, 1) := by decide +kernel
theorem dX12_settles_2 : decode cX12_settles 2 = .ok (.iload_n 1, 1) := by decide +kernel
theorem dX12_settles_3 : decode cX12_settles 3 = .ok (.iconst 3, 1) := by decide +kernel
theorem dX12_settles_4 : decode cX12_settles 4 = .ok (.if_icmp .ge 23, 3) := by decide +kernel
theorem dX12_settles_7 : decode cX12_settles 7 = .ok (.aload_n 0, 1) := by decide +kernel
theorem dX12_settles_8 : decode cX12_settles 8 = .ok (.getfield 13, 3) := by decide +kernel
theorem dX12_settles_11 : decode cX12_settles 11 = .ok (.iload_n 1, 1) := by decide +kernel
theorem dX12_settles_12 : decode cX12_settles 12 = .ok (.aload_n 0, 1) := by decide +kernel
theorem dX12_settles_13 : decode cX12_settles 13 = .ok (.getfield 13, 3) := by decide +kernel
theorem dX12_settles_16 : decode cX12_settles 16 = .ok (.iconst 3, 1) := by decide +kernel
theorem dX12_settles_17 : decode cX12_settles 17 = .ok (.iload_n 1, 1) := by decide +kernel
theorem dX12_settles_18 : decode cX12_settles 18 = .ok (.iadd, 1) := by decide +kernel
theorem dX12_settles_19 : decode cX12_settles 19 = .ok (.iaload, 1) := by decide +kernel
theorem dX12_settles_20 : decode cX12_settles 20 = .ok (.iastore, 1) := by decide +kernel
theorem dX12_settles_21 : decode cX12_settles 21 = .ok (.iinc 1 1, 3) := by decide +kernel
theorem dX12_settles_24 : decode cX12_settles 24 = .ok (.goto (-22), 3) := by decide +kernel
theorem dX12_settles_27 : decode cX12_settles 27 = .ok (.iconst 0, 1) := by decide +kernel
theorem dX12_settles_28 : decode cX12_settles 28 = .ok (.istore_n 1, 1) := by decide +kernel
theorem dX12_settles_29 : decode cX12_settles 29 = .ok (.iload_n 1, 1) := by decide +kernel
theorem dX12_settles_30 : decode cX12_settles 30 = .ok (.bipush 6, 2) := by decide +kernel
theorem dX12_settles_32 : decode cX12_settles 32 = .ok (.if_icmp .ge 54, 3) := by decide +kernel
theorem dX12_settles_35 : decode cX12_settles 35 = .ok (.aload_n 0, 1) := by decide +kernel
theorem dX12_settles_36 : decode cX12_settles 36 = .ok (.getfield 16, 3) := by decide +kernel
theorem dX12_settles_39 : decode cX12_settles 39 = .ok (.iload_n 1, 1) := by decide +kernel
theorem dX12_settles_40 : decode cX12_settles 40 = .ok (.aload_n 0, 1) := by decide +kernel
theorem dX12_settles_41 : decode cX12_settles 41 = .ok (.getfield 16, 3) := by decide +kernel
theorem dX12_settles_44 : decode cX12_settles 44 = .ok (.bipush 6, 2) := by decide +kernel
theorem dX12_settles_46 : decode cX12_settles 46 = .ok (.iload_n 1, 1) := by decide +kernel
theorem dX12_settles_47 : decode cX12_settles 47 = .ok (.iadd, 1) := by decide +kernel
theorem dX12_settles_48 : decode cX12_settles 48 = .ok (.iaload, 1) := by decide +kernel
theorem dX12_settles_49 : decode cX12_settles 49 = .ok (.iastore, 1) := by decide +kernel
theorem dX12_settles_50 : decode cX12_settles 50 = .ok (.aload_n 0, 1) := by decide +kernel
theorem dX12_settles_51 : decode cX12_settles 51 = .ok (.getfield 19, 3) := by decide +kernel
theorem dX12_settles_54 : decode cX12_settles 54 = .ok (.iload_n 1, 1) := by decide +kernel
theorem dX12_settles_55 : decode cX12_settles 55 = .ok (.aload_n 0, 1) := by decide +kernel
theorem dX12_settles_56 : decode cX12_settles 56 = .ok (.getfield 19, 3) := by decide +kernel
theorem dX12_settles_59 : decode cX12_settles 59 = .ok (.bipush 6, 2) := by decide +kernel
theorem dX12_settles_61 : decode cX12_settles 61 = .ok (.iload_n 1, 1) := by decide +kernel
theorem dX12_settles_62 : decode cX12_settles 62 = .ok (.iadd, 1) := by decide +kernel
theorem dX12_settles_63 : decode cX12_settles 63 = .ok (.iaload, 1) := by decide +kernel
theorem dX12_settles_64 : decode cX12_settles 64 = .ok (.iastore, 1) := by decide +kernel
theorem dX12_settles_65 : decode cX12_settles 65 = .ok (.aload_n 0, 1) := by decide +kernel
theorem dX12_settles_66 : decode cX12_settles 66 = .ok (.getfield 22, 3) := by decide +kernel
theorem dX12_settles_69 : decode cX12_settles 69 = .ok (.iload_n 1, 1) := by decide +kernel
theorem dX12_settles_70 : decode cX12_settles 70 = .ok (.aload_n 0, 1) := by decide +kernel
theorem dX12_settles_71 : decode cX12_settles 71 = .ok (.getfield 22, 3) := by decide +kernel
theorem dX12_settles_74 : decode cX12_settles 74 = .ok (.bipush 6, 2) := by decide +kernel
theorem dX12_settles_76 : decode cX12_settles 76 = .ok (.iload_n 1, 1) := by decide +kernel
theorem dX12_settles_77 : decode cX12_settles 77 = .ok (.iadd, 1) := by decide +kernel
theorem dX12_settles_78 : decode cX12_settles 78 = .ok (.iaload, 1) := by decide +kernel
theorem dX12_settles_79 : decode cX12_settles 79 = .ok (.iastore, 1) := by decide +kernel
theorem dX12_settles_80 : decode cX12_settles 80 = .ok (.iinc 1 1, 3) := by decide +kernel
theorem dX12_settles_83 : decode cX12_settles 83 = .ok (.goto (-54), 3) := by decide +kernel
theorem dX12_settles_86 : decode cX12_settles 86 = .ok (.iconst 0, 1) := by decide +kernel
theorem dX12_settles_87 : decode cX12_settles 87 = .ok (.istore_n 1, 1) := by decide +kernel
theorem dX12_settles_88 : decode cX12_settles 88 = .ok (.iload_n 1, 1) := by decide +kernel
theorem dX12_settles_89 : decode cX12_settles 89 = .ok (.bipush 25, 2) := by decide +kernel
theorem dX12_settles_91 : decode cX12_settles 91 = .ok (.if_icmp .ge 21, 3) := by decide +kernel
theorem dX12_settles_94 : decode cX12_settles 94 = .ok (.aload_n 0, 1) := by decide +kernel
theorem dX12_settles_95 : decode cX12_settles 95 = .ok (.getfield 28, 3) := by decide +kernel
theorem dX12_settles_98 : decode cX12_settles 98 = .ok (.iload_n 1, 1) := by decide +kernel
theorem dX12_settles_99 : decode cX12_settles 99 = .ok (.aload_n 0, 1) := by decide +kernel
theorem dX12_settles_100 : decode cX12_settles 100 = .ok (.getfield 25, 3) := by decide +kernel
theorem dX12_settles_103 : decode cX12_settles 103 = .ok (.iload_n 1, 1) := by decide +kernel
theorem dX12_settles_104 : decode cX12_settles 104 = .ok (.iaload, 1) := by decide +kernel
theorem dX12_settles_105 : decode cX12_settles 105 = .ok (.iastore, 1) := by decide +kernel
theorem dX12_settles_106 : decode cX12_settles 106 = .ok (.iinc 1 1, 3) := by decide +kernel
theorem dX12_settles_109 : decode cX12_settles 109 = .ok (.goto (-21), 3) := by decide +kernel
theorem dX12_settles_112 : decode cX12_settles 112 = .ok (.aload_n 0, 1) := by decide +kernel
theorem dX12_settles_113 : decode cX12_settles 113 = .ok (.iconst 0, 1) := by decide +kernel
theorem dX12_settles_114 : decode cX12_settles 114 = .ok (.putfield 73, 3) := by decide +kernel
theorem dX12_settles_117 : decode cX12_settles 117 = .ok (.aload_n 0, 1) := by decide +kernel
theorem dX12_settles_118 : decode cX12_settles 118 = .ok (.iconst 0, 1) := by decide +kernel
theorem dX12_settles_119 : decode cX12_settles 119 = .ok (.putfield 125, 3) := by decide +kernel
theorem dX12_settles_122 : decode cX12_settles 122 = .ok (.aload_n 0, 1) := by decide +kernel
theorem dX12_settles_123 : decode cX12_settles 123 = .ok (.iconst 0, 1) := by decide +kernel
theorem dX12_settles_124 : decode cX12_settles 124 = .ok (.putfield 128, 3) := by decide +kernel
theorem dX12_settles_127 : decode cX12_settles 127 = .ok (.aload_n 0, 1) := by decide +kernel
theorem dX12_settles_128 : decode cX12_settles 128 = .ok (.getfield 34, 3) := by decide +kernel
theorem dX12_settles_131 : decode cX12_settles 131 = .ok (.iconst 0, 1) := by decide +kernel
theorem dX12_settles_132 : decode cX12_settles 132 = .ok (.iconst 0, 1) := by decide +kernel
theorem dX12_settles_133 : decode cX12_settles 133 = .ok (.bastore, 1) := by decide +kernel
theorem dX12_settles_134 : decode cX12_settles 134 = .ok (.aload_n 0, 1) := by decide +kernel
theorem dX12_settles_135 : decode cX12_settles 135 = .ok (.getfield 34, 3) := by decide +kernel
theorem dX12_settles_138 : decode cX12_settles 138 = .ok (.iconst 1, 1) := by decide +kernel
theorem dX12_settles_139 : decode cX12_settles 139 = .ok (.iconst 0, 1) := by decide +kernel
theorem dX12_settles_140 : decode cX12_settles 140 = .ok (.bastore, 1) := by decide +kernel
theorem dX12_settles_141 : decode cX12_settles 141 = .ok (.return_, 1) := by decide +kernel
theorem dX12_isGuest_0 : decode cX12_isGuest 0 = .ok (.iload_n 1, 1) := by decide +kernel
theorem dX12_isGuest_1 : decode cX12_isGuest 1 = .ok (.iconst 0, 1) := by decide +kernel
theorem dX12_isGuest_2 : decode cX12_isGuest 2 = .ok (.aload_n 0, 1) := by decide +kernel
theorem dX12_isGuest_3 : decode cX12_isGuest 3 = .ok (.getfield 13, 3) := by decide +kernel
theorem dX12_isGuest_6 : decode cX12_isGuest 6 = .ok (.iconst 1, 1) := by decide +kernel
theorem dX12_isGuest_7 : decode cX12_isGuest 7 = .ok (.iaload, 1) := by decide +kernel
theorem dX12_isGuest_8 : decode cX12_isGuest 8 = .ok (.iconst 1, 1) := by decide +kernel
theorem dX12_isGuest_9 : decode cX12_isGuest 9 = .ok (.isub, 1) := by decide +kernel
theorem dX12_isGuest_10 : decode cX12_isGuest 10 = .ok (.invokestatic 69, 3) := by decide +kernel
theorem dX12_isGuest_13 : decode cX12_isGuest 13 = .ok (.ireturn, 1) := by decide +kernel
theorem dX12_isDish_0 : decode cX12_isDish 0 = .ok (.iload_n 1, 1) := by decide +kernel
theorem dX12_isDish_1 : decode cX12_isDish 1 = .ok (.iconst 0, 1) := by decide +kernel
theorem dX12_isDish_2 : decode cX12_isDish 2 = .ok (.aload_n 0, 1) := by decide +kernel
theorem dX12_isDish_3 : decode cX12_isDish 3 = .ok (.getfield 13, 3) := by decide +kernel
theorem dX12_isDish_6 : decode cX12_isDish 6 = .ok (.iconst 2, 1) := by decide +kernel
theorem dX12_isDish_7 : decode cX12_isDish 7 = .ok (.iaload, 1) := by decide +kernel
theorem dX12_isDish_8 : decode cX12_isDish 8 = .ok (.iconst 1, 1) := by decide +kernel
theorem dX12_isDish_9 : decode cX12_isDish 9 = .ok (.isub, 1) := by decide +kernel
theorem dX12_isDish_10 : decode cX12_isDish 10 = .ok (.invokestatic 69, 3) := by decide +kernel
theorem dX12_isDish_13 : decode cX12_isDish 13 = .ok (.ireturn, 1) := by decide +kernel
theorem dX12_isSeat_0 : decode cX12_isSeat 0 = .ok (.iload_n 1, 1) := by decide +kernel
theorem dX12_isSeat_1 : decode cX12_isSeat 1 = .ok (.iconst 0, 1) := by decide +kernel
theorem dX12_isSeat_2 : decode cX12_isSeat 2 = .ok (.aload_n 0, 1) := by decide +kernel
theorem dX12_isSeat_3 : decode cX12_isSeat 3 = .ok (.getfield 13, 3) := by decide +kernel
theorem dX12_isSeat_6 : decode cX12_isSeat 6 = .ok (.iconst 0, 1) := by decide +kernel
theorem dX12_isSeat_7 : decode cX12_isSeat 7 = .ok (.iaload, 1) := by decide +kernel
theorem dX12_isSeat_8 : decode cX12_isSeat 8 = .ok (.iconst 1, 1) := by decide +kernel
theorem dX12_isSeat_9 : decode cX12_isSeat 9 = .ok (.isub, 1) := by decide +kernel
theorem dX12_isSeat_10 : decode cX12_isSeat 10 = .ok (.invokestatic 69, 3) := by decide +kernel
theorem dX12_isSeat_13 : decode cX12_isSeat 13 = .ok (.ireturn, 1) := by decide +kernel
theorem dX12_reachesBy_0 : decode cX12_reachesBy 0 = .ok (.aload_n 0, 1) := by decide +kernel
theorem dX12_reachesBy_1 : decode cX12_reachesBy 1 = .ok (.getfield 13, 3) := by decide +kernel
theorem dX12_reachesBy_4 : decode cX12_reachesBy 4 = .ok (.iconst 0, 1) := by decide +kernel
theorem dX12_reachesBy_5 : decode cX12_reachesBy 5 = .ok (.iaload, 1) := by decide +kernel
theorem dX12_reachesBy_6 : decode cX12_reachesBy 6 = .ok (.istore 4, 2) := by decide +kernel
theorem dX12_reachesBy_8 : decode cX12_reachesBy 8 = .ok (.aload_n 0, 1) := by decide +kernel
theorem dX12_reachesBy_9 : decode cX12_reachesBy 9 = .ok (.getfield 28, 3) := by decide +kernel
theorem dX12_reachesBy_12 : decode cX12_reachesBy 12 = .ok (.bipush 7, 2) := by decide +kernel
theorem dX12_reachesBy_14 : decode cX12_reachesBy 14 = .ok (.iload_n 2, 1) := by decide +kernel
theorem dX12_reachesBy_15 : decode cX12_reachesBy 15 = .ok (.iadd, 1) := by decide +kernel
theorem dX12_reachesBy_16 : decode cX12_reachesBy 16 = .ok (.iaload, 1) := by decide +kernel
theorem dX12_reachesBy_17 : decode cX12_reachesBy 17 = .ok (.iload_n 3, 1) := by decide +kernel
theorem dX12_reachesBy_18 : decode cX12_reachesBy 18 = .ok (.iadd, 1) := by decide +kernel
theorem dX12_reachesBy_19 : decode cX12_reachesBy 19 = .ok (.aload_n 0, 1) := by decide +kernel
theorem dX12_reachesBy_20 : decode cX12_reachesBy 20 = .ok (.getfield 28, 3) := by decide +kernel
theorem dX12_reachesBy_23 : decode cX12_reachesBy 23 = .ok (.bipush 13, 2) := by decide +kernel
theorem dX12_reachesBy_25 : decode cX12_reachesBy 25 = .ok (.iload_n 1, 1) := by decide +kernel
theorem dX12_reachesBy_26 : decode cX12_reachesBy 26 = .ok (.iadd, 1) := by decide +kernel
theorem dX12_reachesBy_27 : decode cX12_reachesBy 27 = .ok (.iaload, 1) := by decide +kernel
theorem dX12_reachesBy_28 : decode cX12_reachesBy 28 = .ok (.isub, 1) := by decide +kernel
theorem dX12_reachesBy_29 : decode cX12_reachesBy 29 = .ok (.iconst 2, 1) := by decide +kernel
theorem dX12_reachesBy_30 : decode cX12_reachesBy 30 = .ok (.iload 4, 2) := by decide +kernel
theorem dX12_reachesBy_32 : decode cX12_reachesBy 32 = .ok (.imul, 1) := by decide +kernel
theorem dX12_reachesBy_33 : decode cX12_reachesBy 33 = .ok (.iadd, 1) := by decide +kernel
theorem dX12_reachesBy_34 : decode cX12_reachesBy 34 = .ok (.iload 4, 2) := by decide +kernel
theorem dX12_reachesBy_36 : decode cX12_reachesBy 36 = .ok (.irem, 1) := by decide +kernel
theorem dX12_reachesBy_37 : decode cX12_reachesBy 37 = .ok (.istore 5, 2) := by decide +kernel
theorem dX12_reachesBy_39 : decode cX12_reachesBy 39 = .ok (.iload 5, 2) := by decide +kernel
theorem dX12_reachesBy_41 : decode cX12_reachesBy 41 = .ok (.aload_n 0, 1) := by decide +kernel
theorem dX12_reachesBy_42 : decode cX12_reachesBy 42 = .ok (.getfield 16, 3) := by decide +kernel
theorem dX12_reachesBy_45 : decode cX12_reachesBy 45 = .ok (.iload_n 1, 1) := by decide +kernel
theorem dX12_reachesBy_46 : decode cX12_reachesBy 46 = .ok (.iaload, 1) := by decide +kernel
theorem dX12_reachesBy_47 : decode cX12_reachesBy 47 = .ok (.if_icmp .le 17, 3) := by decide +kernel
theorem dX12_reachesBy_50 : decode cX12_reachesBy 50 = .ok (.iload 4, 2) := by decide +kernel
theorem dX12_reachesBy_52 : decode cX12_reachesBy 52 = .ok (.iload 5, 2) := by decide +kernel
theorem dX12_reachesBy_54 : decode cX12_reachesBy 54 = .ok (.isub, 1) := by decide +kernel
theorem dX12_reachesBy_55 : decode cX12_reachesBy 55 = .ok (.aload_n 0, 1) := by decide +kernel
theorem dX12_reachesBy_56 : decode cX12_reachesBy 56 = .ok (.getfield 16, 3) := by decide +kernel
theorem dX12_reachesBy_59 : decode cX12_reachesBy 59 = .ok (.iload_n 1, 1) := by decide +kernel
theorem dX12_reachesBy_60 : decode cX12_reachesBy 60 = .ok (.iaload, 1) := by decide +kernel
theorem dX12_reachesBy_61 : decode cX12_reachesBy 61 = .ok (.if_icmp .gt 7, 3) := by decide +kernel
theorem dX12_reachesBy_64 : decode cX12_reachesBy 64 = .ok (.iconst 1, 1) := by decide +kernel
theorem dX12_reachesBy_65 : decode cX12_reachesBy 65 = .ok (.goto 4, 3) := by decide +kernel
theorem dX12_reachesBy_68 : decode cX12_reachesBy 68 = .ok (.iconst 0, 1) := by decide +kernel
theorem dX12_reachesBy_69 : decode cX12_reachesBy 69 = .ok (.ireturn, 1) := by decide +kernel
theorem dX12_reachedBy_0 : decode cX12_reachedBy 0 = .ok (.iconst 0, 1) := by decide +kernel
theorem dX12_reachedBy_1 : decode cX12_reachedBy 1 = .ok (.istore_n 2, 1) := by decide +kernel
theorem dX12_reachedBy_2 : decode cX12_reachedBy 2 = .ok (.iconst 0, 1) := by decide +kernel
theorem dX12_reachedBy_3 : decode cX12_reachedBy 3 = .ok (.istore_n 3, 1) := by decide +kernel
theorem dX12_reachedBy_4 : decode cX12_reachedBy 4 = .ok (.iload_n 3, 1) := by decide +kernel
theorem dX12_reachedBy_5 : decode cX12_reachedBy 5 = .ok (.aload_n 0, 1) := by decide +kernel
theorem dX12_reachedBy_6 : decode cX12_reachedBy 6 = .ok (.getfield 13, 3) := by decide +kernel
theorem dX12_reachedBy_9 : decode cX12_reachedBy 9 = .ok (.iconst 2, 1) := by decide +kernel
theorem dX12_reachedBy_10 : decode cX12_reachedBy 10 = .ok (.iaload, 1) := by decide +kernel
theorem dX12_reachedBy_11 : decode cX12_reachedBy 11 = .ok (.if_icmp .ge 34, 3) := by decide +kernel
theorem dX12_reachedBy_14 : decode cX12_reachedBy 14 = .ok (.iload_n 2, 1) := by decide +kernel
theorem dX12_reachedBy_15 : decode cX12_reachedBy 15 = .ok (.aload_n 0, 1) := by decide +kernel
theorem dX12_reachedBy_16 : decode cX12_reachedBy 16 = .ok (.iload_n 1, 1) := by decide +kernel
theorem dX12_reachedBy_17 : decode cX12_reachedBy 17 = .ok (.iload_n 3, 1) := by decide +kernel
theorem dX12_reachedBy_18 : decode cX12_reachedBy 18 = .ok (.aload_n 0, 1) := by decide +kernel
theorem dX12_reachedBy_19 : decode cX12_reachedBy 19 = .ok (.getfield 28, 3) := by decide +kernel
theorem dX12_reachedBy_22 : decode cX12_reachedBy 22 = .ok (.iconst 0, 1) := by decide +kernel
theorem dX12_reachedBy_23 : decode cX12_reachedBy 23 = .ok (.iaload, 1) := by decide +kernel
theorem dX12_reachedBy_24 : decode cX12_reachedBy 24 = .ok (.invokevirtual 131, 3) := by decide +kernel
theorem dX12_reachedBy_27 : decode cX12_reachedBy 27 = .ok (.ifCond .eq 9, 3) := by decide +kernel
theorem dX12_reachedBy_30 : decode cX12_reachedBy 30 = .ok (.iconst 1, 1) := by decide +kernel
theorem dX12_reachedBy_31 : decode cX12_reachedBy 31 = .ok (.iload_n 3, 1) := by decide +kernel
theorem dX12_reachedBy_32 : decode cX12_reachedBy 32 = .ok (.ishl, 1) := by decide +kernel
theorem dX12_reachedBy_33 : decode cX12_reachedBy 33 = .ok (.goto 4, 3) := by decide +kernel
theorem dX12_reachedBy_36 : decode cX12_reachedBy 36 = .ok (.iconst 0, 1) := by decide +kernel
theorem dX12_reachedBy_37 : decode cX12_reachedBy 37 = .ok (.ior, 1) := by decide +kernel
theorem dX12_reachedBy_38 : decode cX12_reachedBy 38 = .ok (.istore_n 2, 1) := by decide +kernel
theorem dX12_reachedBy_39 : decode cX12_reachedBy 39 = .ok (.iinc 3 1, 3) := by decide +kernel
theorem dX12_reachedBy_42 : decode cX12_reachedBy 42 = .ok (.goto (-38), 3) := by decide +kernel
theorem dX12_reachedBy_45 : decode cX12_reachedBy 45 = .ok (.iload_n 2, 1) := by decide +kernel
theorem dX12_reachedBy_46 : decode cX12_reachedBy 46 = .ok (.ireturn, 1) := by decide +kernel
theorem dX12_needsOf_0 : decode cX12_needsOf 0 = .ok (.aload_n 0, 1) := by decide +kernel
theorem dX12_needsOf_1 : decode cX12_needsOf 1 = .ok (.getfield 19, 3) := by decide +kernel
theorem dX12_needsOf_4 : decode cX12_needsOf 4 = .ok (.iload_n 1, 1) := by decide +kernel
theorem dX12_needsOf_5 : decode cX12_needsOf 5 = .ok (.iaload, 1) := by decide +kernel
theorem dX12_needsOf_6 : decode cX12_needsOf 6 = .ok (.iconst 1, 1) := by decide +kernel
theorem dX12_needsOf_7 : decode cX12_needsOf 7 = .ok (.aload_n 0, 1) := by decide +kernel
theorem dX12_needsOf_8 : decode cX12_needsOf 8 = .ok (.getfield 13, 3) := by decide +kernel
theorem dX12_needsOf_11 : decode cX12_needsOf 11 = .ok (.iconst 2, 1) := by decide +kernel
theorem dX12_needsOf_12 : decode cX12_needsOf 12 = .ok (.iaload, 1) := by decide +kernel
theorem dX12_needsOf_13 : decode cX12_needsOf 13 = .ok (.ishl, 1) := by decide +kernel
theorem dX12_needsOf_14 : decode cX12_needsOf 14 = .ok (.iconst 1, 1) := by decide +kernel
theorem dX12_needsOf_15 : decode cX12_needsOf 15 = .ok (.isub, 1) := by decide +kernel
theorem dX12_needsOf_16 : decode cX12_needsOf 16 = .ok (.iand, 1) := by decide +kernel
theorem dX12_needsOf_17 : decode cX12_needsOf 17 = .ok (.aload_n 0, 1) := by decide +kernel
theorem dX12_needsOf_18 : decode cX12_needsOf 18 = .ok (.getfield 28, 3) := by decide +kernel
theorem dX12_needsOf_21 : decode cX12_needsOf 21 = .ok (.bipush 19, 2) := by decide +kernel
theorem dX12_needsOf_23 : decode cX12_needsOf 23 = .ok (.iload_n 1, 1) := by decide +kernel
theorem dX12_needsOf_24 : decode cX12_needsOf 24 = .ok (.iadd, 1) := by decide +kernel
theorem dX12_needsOf_25 : decode cX12_needsOf 25 = .ok (.iaload, 1) := by decide +kernel
theorem dX12_needsOf_26 : decode cX12_needsOf 26 = .ok (.iconst (-1), 1) := by decide +kernel
theorem dX12_needsOf_27 : decode cX12_needsOf 27 = .ok (.ixor, 1) := by decide +kernel
theorem dX12_needsOf_28 : decode cX12_needsOf 28 = .ok (.iand, 1) := by decide +kernel
theorem dX12_needsOf_29 : decode cX12_needsOf 29 = .ok (.ireturn, 1) := by decide +kernel
theorem dX12_guest_0 : decode cX12_guest 0 = .ok (.aload_n 0, 1) := by decide +kernel
theorem dX12_guest_1 : decode cX12_guest 1 = .ok (.iconst 0, 1) := by decide +kernel
theorem dX12_guest_2 : decode cX12_guest 2 = .ok (.putfield 65, 3) := by decide +kernel
theorem dX12_guest_5 : decode cX12_guest 5 = .ok (.aload_n 0, 1) := by decide +kernel
theorem dX12_guest_6 : decode cX12_guest 6 = .ok (.iload_n 1, 1) := by decide +kernel
theorem dX12_guest_7 : decode cX12_guest 7 = .ok (.invokevirtual 134, 3) := by decide +kernel
theorem dX12_guest_10 : decode cX12_guest 10 = .ok (.ifCond .eq 12, 3) := by decide +kernel
theorem dX12_guest_13 : decode cX12_guest 13 = .ok (.iload_n 2, 1) := by decide +kernel
theorem dX12_guest_14 : decode cX12_guest 14 = .ok (.iconst 0, 1) := by decide +kernel
theorem dX12_guest_15 : decode cX12_guest 15 = .ok (.iconst 5, 1) := by decide +kernel
theorem dX12_guest_16 : decode cX12_guest 16 = .ok (.invokestatic 69, 3) := by decide +kernel
theorem dX12_guest_19 : decode cX12_guest 19 = .ok (.ifCond .ne 5, 3) := by decide +kernel
theorem dX12_guest_22 : decode cX12_guest 22 = .ok (.iconst (-1), 1) := by decide +kernel
theorem dX12_guest_23 : decode cX12_guest 23 = .ok (.ireturn, 1) := by decide +kernel
theorem dX12_guest_24 : decode cX12_guest 24 = .ok (.iload_n 2, 1) := by decide +kernel
theorem dX12_guest_25 : decode cX12_guest 25 = .ok (.iconst 3, 1) := by decide +kernel
theorem dX12_guest_26 : decode cX12_guest 26 = .ok (.if_icmp .ge 40, 3) := by decide +kernel
theorem dX12_guest_29 : decode cX12_guest 29 = .ok (.iload_n 2, 1) := by decide +kernel
theorem dX12_guest_30 : decode cX12_guest 30 = .ok (.ifCond .ne 15, 3) := by decide +kernel
theorem dX12_guest_33 : decode cX12_guest 33 = .ok (.aload_n 0, 1) := by decide +kernel
theorem dX12_guest_34 : decode cX12_guest 34 = .ok (.getfield 28, 3) := by decide +kernel
theorem dX12_guest_37 : decode cX12_guest 37 = .ok (.bipush 13, 2) := by decide +kernel
theorem dX12_guest_39 : decode cX12_guest 39 = .ok (.iload_n 1, 1) := by decide +kernel
theorem dX12_guest_40 : decode cX12_guest 40 = .ok (.iadd, 1) := by decide +kernel
theorem dX12_guest_41 : decode cX12_guest 41 = .ok (.iaload, 1) := by decide +kernel
theorem dX12_guest_42 : decode cX12_guest 42 = .ok (.goto 23, 3) := by decide +kernel
theorem dX12_guest_45 : decode cX12_guest 45 = .ok (.iload_n 2, 1) := by decide +kernel
theorem dX12_guest_46 : decode cX12_guest 46 = .ok (.iconst 1, 1) := by decide +kernel
theorem dX12_guest_47 : decode cX12_guest 47 = .ok (.if_icmp .ne 12, 3) := by decide +kernel
theorem dX12_guest_50 : decode cX12_guest 50 = .ok (.aload_n 0, 1) := by decide +kernel
theorem dX12_guest_51 : decode cX12_guest 51 = .ok (.getfield 16, 3) := by decide +kernel
theorem dX12_guest_54 : decode cX12_guest 54 = .ok (.iload_n 1, 1) := by decide +kernel
theorem dX12_guest_55 : decode cX12_guest 55 = .ok (.iaload, 1) := by decide +kernel
theorem dX12_guest_56 : decode cX12_guest 56 = .ok (.goto 9, 3) := by decide +kernel
theorem dX12_guest_59 : decode cX12_guest 59 = .ok (.aload_n 0, 1) := by decide +kernel
theorem dX12_guest_60 : decode cX12_guest 60 = .ok (.getfield 19, 3) := by decide +kernel
theorem dX12_guest_63 : decode cX12_guest 63 = .ok (.iload_n 1, 1) := by decide +kernel
theorem dX12_guest_64 : decode cX12_guest 64 = .ok (.iaload, 1) := by decide +kernel
theorem dX12_guest_65 : decode cX12_guest 65 = .ok (.ireturn, 1) := by decide +kernel
theorem dX12_guest_66 : decode cX12_guest 66 = .ok (.iload_n 2, 1) := by decide +kernel
theorem dX12_guest_67 : decode cX12_guest 67 = .ok (.iconst 3, 1) := by decide +kernel
theorem dX12_guest_68 : decode cX12_guest 68 = .ok (.if_icmp .ne 15, 3) := by decide +kernel
theorem dX12_guest_71 : decode cX12_guest 71 = .ok (.aload_n 0, 1) := by decide +kernel
theorem dX12_guest_72 : decode cX12_guest 72 = .ok (.getfield 28, 3) := by decide +kernel
theorem dX12_guest_75 : decode cX12_guest 75 = .ok (.bipush 19, 2) := by decide +kernel
theorem dX12_guest_77 : decode cX12_guest 77 = .ok (.iload_n 1, 1) := by decide +kernel
theorem dX12_guest_78 : decode cX12_guest 78 = .ok (.iadd, 1) := by decide +kernel
theorem dX12_guest_79 : decode cX12_guest 79 = .ok (.iaload, 1) := by decide +kernel
theorem dX12_guest_80 : decode cX12_guest 80 = .ok (.goto 21, 3) := by decide +kernel
theorem dX12_guest_83 : decode cX12_guest 83 = .ok (.iload_n 2, 1) := by decide +kernel
theorem dX12_guest_84 : decode cX12_guest 84 = .ok (.iconst 4, 1) := by decide +kernel
theorem dX12_guest_85 : decode cX12_guest 85 = .ok (.if_icmp .ne 11, 3) := by decide +kernel
theorem dX12_guest_88 : decode cX12_guest 88 = .ok (.aload_n 0, 1) := by decide +kernel
theorem dX12_guest_89 : decode cX12_guest 89 = .ok (.iload_n 1, 1) := by decide +kernel
theorem dX12_guest_90 : decode cX12_guest 90 = .ok (.invokevirtual 137, 3) := by decide +kernel
theorem dX12_guest_93 : decode cX12_guest 93 = .ok (.goto 8, 3) := by decide +kernel
theorem dX12_guest_96 : decode cX12_guest 96 = .ok (.aload_n 0, 1) := by decide +kernel
theorem dX12_guest_97 : decode cX12_guest 97 = .ok (.iload_n 1, 1) := by decide +kernel
theorem dX12_guest_98 : decode cX12_guest 98 = .ok (.invokevirtual 140, 3) := by decide +kernel
theorem dX12_guest_101 : decode cX12_guest 101 = .ok (.ireturn, 1) := by decide +kernel
theorem dX12_whoReach_0 : decode cX12_whoReach 0 = .ok (.iconst 0, 1) := by decide +kernel
theorem dX12_whoReach_1 : decode cX12_whoReach 1 = .ok (.istore_n 3, 1) := by decide +kernel
theorem dX12_whoReach_2 : decode cX12_whoReach 2 = .ok (.iconst 0, 1) := by decide +kernel
theorem dX12_whoReach_3 : decode cX12_whoReach 3 = .ok (.istore 4, 2) := by decide +kernel
theorem dX12_whoReach_5 : decode cX12_whoReach 5 = .ok (.iload 4, 2) := by decide +kernel
theorem dX12_whoReach_7 : decode cX12_whoReach 7 = .ok (.aload_n 0, 1) := by decide +kernel
theorem dX12_whoReach_8 : decode cX12_whoReach 8 = .ok (.getfield 13, 3) := by decide +kernel
theorem dX12_whoReach_11 : decode cX12_whoReach 11 = .ok (.iconst 1, 1) := by decide +kernel
theorem dX12_whoReach_12 : decode cX12_whoReach 12 = .ok (.iaload, 1) := by decide +kernel
theorem dX12_whoReach_13 : decode cX12_whoReach 13 = .ok (.if_icmp .ge 31, 3) := by decide +kernel
theorem dX12_whoReach_16 : decode cX12_whoReach 16 = .ok (.iload_n 3, 1) := by decide +kernel
theorem dX12_whoReach_17 : decode cX12_whoReach 17 = .ok (.aload_n 0, 1) := by decide +kernel
theorem dX12_whoReach_18 : decode cX12_whoReach 18 = .ok (.iload 4, 2) := by decide +kernel
theorem dX12_whoReach_20 : decode cX12_whoReach 20 = .ok (.iload_n 1, 1) := by decide +kernel
theorem dX12_whoReach_21 : decode cX12_whoReach 21 = .ok (.iload_n 2, 1) := by decide +kernel
theorem dX12_whoReach_22 : decode cX12_whoReach 22 = .ok (.invokevirtual 131, 3) := by decide +kernel
theorem dX12_whoReach_25 : decode cX12_whoReach 25 = .ok (.ifCond .eq 10, 3) := by decide +kernel
theorem dX12_whoReach_28 : decode cX12_whoReach 28 = .ok (.iconst 1, 1) := by decide +kernel
theorem dX12_whoReach_29 : decode cX12_whoReach 29 = .ok (.iload 4, 2) := by decide +kernel
theorem dX12_whoReach_31 : decode cX12_whoReach 31 = .ok (.ishl, 1) := by decide +kernel
theorem dX12_whoReach_32 : decode cX12_whoReach 32 = .ok (.goto 4, 3) := by decide +kernel
theorem dX12_whoReach_35 : decode cX12_whoReach 35 = .ok (.iconst 0, 1) := by decide +kernel
theorem dX12_whoReach_36 : decode cX12_whoReach 36 = .ok (.ior, 1) := by decide +kernel
theorem dX12_whoReach_37 : decode cX12_whoReach 37 = .ok (.istore_n 3, 1) := by decide +kernel
theorem dX12_whoReach_38 : decode cX12_whoReach 38 = .ok (.iinc 4 1, 3) := by decide +kernel
theorem dX12_whoReach_41 : decode cX12_whoReach 41 = .ok (.goto (-36), 3) := by decide +kernel
theorem dX12_whoReach_44 : decode cX12_whoReach 44 = .ok (.iload_n 3, 1) := by decide +kernel
theorem dX12_whoReach_45 : decode cX12_whoReach 45 = .ok (.ireturn, 1) := by decide +kernel
theorem dX12_dish_0 : decode cX12_dish 0 = .ok (.aload_n 0, 1) := by decide +kernel
theorem dX12_dish_1 : decode cX12_dish 1 = .ok (.iconst 0, 1) := by decide +kernel
theorem dX12_dish_2 : decode cX12_dish 2 = .ok (.putfield 65, 3) := by decide +kernel
theorem dX12_dish_5 : decode cX12_dish 5 = .ok (.aload_n 0, 1) := by decide +kernel
theorem dX12_dish_6 : decode cX12_dish 6 = .ok (.iload_n 1, 1) := by decide +kernel
theorem dX12_dish_7 : decode cX12_dish 7 = .ok (.invokevirtual 143, 3) := by decide +kernel
theorem dX12_dish_10 : decode cX12_dish 10 = .ok (.ifCond .eq 12, 3) := by decide +kernel
theorem dX12_dish_13 : decode cX12_dish 13 = .ok (.iload_n 2, 1) := by decide +kernel
theorem dX12_dish_14 : decode cX12_dish 14 = .ok (.iconst 0, 1) := by decide +kernel
theorem dX12_dish_15 : decode cX12_dish 15 = .ok (.iconst 4, 1) := by decide +kernel
theorem dX12_dish_16 : decode cX12_dish 16 = .ok (.invokestatic 69, 3) := by decide +kernel
theorem dX12_dish_19 : decode cX12_dish 19 = .ok (.ifCond .ne 5, 3) := by decide +kernel
theorem dX12_dish_22 : decode cX12_dish 22 = .ok (.iconst (-1), 1) := by decide +kernel
theorem dX12_dish_23 : decode cX12_dish 23 = .ok (.ireturn, 1) := by decide +kernel
theorem dX12_dish_24 : decode cX12_dish 24 = .ok (.iload_n 2, 1) := by decide +kernel
theorem dX12_dish_25 : decode cX12_dish 25 = .ok (.iconst 3, 1) := by decide +kernel
theorem dX12_dish_26 : decode cX12_dish 26 = .ok (.if_icmp .ge 42, 3) := by decide +kernel
theorem dX12_dish_29 : decode cX12_dish 29 = .ok (.iload_n 2, 1) := by decide +kernel
theorem dX12_dish_30 : decode cX12_dish 30 = .ok (.ifCond .ne 15, 3) := by decide +kernel
theorem dX12_dish_33 : decode cX12_dish 33 = .ok (.aload_n 0, 1) := by decide +kernel
theorem dX12_dish_34 : decode cX12_dish 34 = .ok (.getfield 28, 3) := by decide +kernel
theorem dX12_dish_37 : decode cX12_dish 37 = .ok (.bipush 7, 2) := by decide +kernel
theorem dX12_dish_39 : decode cX12_dish 39 = .ok (.iload_n 1, 1) := by decide +kernel
theorem dX12_dish_40 : decode cX12_dish 40 = .ok (.iadd, 1) := by decide +kernel
theorem dX12_dish_41 : decode cX12_dish 41 = .ok (.iaload, 1) := by decide +kernel
theorem dX12_dish_42 : decode cX12_dish 42 = .ok (.goto 25, 3) := by decide +kernel
theorem dX12_dish_45 : decode cX12_dish 45 = .ok (.iload_n 2, 1) := by decide +kernel
theorem dX12_dish_46 : decode cX12_dish 46 = .ok (.iconst 1, 1) := by decide +kernel
theorem dX12_dish_47 : decode cX12_dish 47 = .ok (.if_icmp .ne 14, 3) := by decide +kernel
theorem dX12_dish_50 : decode cX12_dish 50 = .ok (.aload_n 0, 1) := by decide +kernel
theorem dX12_dish_51 : decode cX12_dish 51 = .ok (.getfield 28, 3) := by decide +kernel
theorem dX12_dish_54 : decode cX12_dish 54 = .ok (.iconst 1, 1) := by decide +kernel
theorem dX12_dish_55 : decode cX12_dish 55 = .ok (.iload_n 1, 1) := by decide +kernel
theorem dX12_dish_56 : decode cX12_dish 56 = .ok (.iadd, 1) := by decide +kernel
theorem dX12_dish_57 : decode cX12_dish 57 = .ok (.iaload, 1) := by decide +kernel
theorem dX12_dish_58 : decode cX12_dish 58 = .ok (.goto 9, 3) := by decide +kernel
theorem dX12_dish_61 : decode cX12_dish 61 = .ok (.aload_n 0, 1) := by decide +kernel
theorem dX12_dish_62 : decode cX12_dish 62 = .ok (.getfield 22, 3) := by decide +kernel
theorem dX12_dish_65 : decode cX12_dish 65 = .ok (.iload_n 1, 1) := by decide +kernel
theorem dX12_dish_66 : decode cX12_dish 66 = .ok (.iaload, 1) := by decide +kernel
theorem dX12_dish_67 : decode cX12_dish 67 = .ok (.ireturn, 1) := by decide +kernel
theorem dX12_dish_68 : decode cX12_dish 68 = .ok (.iload_n 2, 1) := by decide +kernel
theorem dX12_dish_69 : decode cX12_dish 69 = .ok (.iconst 3, 1) := by decide +kernel
theorem dX12_dish_70 : decode cX12_dish 70 = .ok (.if_icmp .ne 29, 3) := by decide +kernel
theorem dX12_dish_73 : decode cX12_dish 73 = .ok (.aload_n 0, 1) := by decide +kernel
theorem dX12_dish_74 : decode cX12_dish 74 = .ok (.getfield 28, 3) := by decide +kernel
theorem dX12_dish_77 : decode cX12_dish 77 = .ok (.bipush 7, 2) := by decide +kernel
theorem dX12_dish_79 : decode cX12_dish 79 = .ok (.iload_n 1, 1) := by decide +kernel
theorem dX12_dish_80 : decode cX12_dish 80 = .ok (.iadd, 1) := by decide +kernel
theorem dX12_dish_81 : decode cX12_dish 81 = .ok (.iaload, 1) := by decide +kernel
theorem dX12_dish_82 : decode cX12_dish 82 = .ok (.aload_n 0, 1) := by decide +kernel
theorem dX12_dish_83 : decode cX12_dish 83 = .ok (.getfield 28, 3) := by decide +kernel
theorem dX12_dish_86 : decode cX12_dish 86 = .ok (.iconst 0, 1) := by decide +kernel
theorem dX12_dish_87 : decode cX12_dish 87 = .ok (.iaload, 1) := by decide +kernel
theorem dX12_dish_88 : decode cX12_dish 88 = .ok (.iadd, 1) := by decide +kernel
theorem dX12_dish_89 : decode cX12_dish 89 = .ok (.aload_n 0, 1) := by decide +kernel
theorem dX12_dish_90 : decode cX12_dish 90 = .ok (.getfield 13, 3) := by decide +kernel
theorem dX12_dish_93 : decode cX12_dish 93 = .ok (.iconst 0, 1) := by decide +kernel
theorem dX12_dish_94 : decode cX12_dish 94 = .ok (.iaload, 1) := by decide +kernel
theorem dX12_dish_95 : decode cX12_dish 95 = .ok (.irem, 1) := by decide +kernel
theorem dX12_dish_96 : decode cX12_dish 96 = .ok (.goto 14, 3) := by decide +kernel
theorem dX12_dish_99 : decode cX12_dish 99 = .ok (.aload_n 0, 1) := by decide +kernel
theorem dX12_dish_100 : decode cX12_dish 100 = .ok (.iload_n 1, 1) := by decide +kernel
theorem dX12_dish_101 : decode cX12_dish 101 = .ok (.aload_n 0, 1) := by decide +kernel
theorem dX12_dish_102 : decode cX12_dish 102 = .ok (.getfield 28, 3) := by decide +kernel
theorem dX12_dish_105 : decode cX12_dish 105 = .ok (.iconst 0, 1) := by decide +kernel
theorem dX12_dish_106 : decode cX12_dish 106 = .ok (.iaload, 1) := by decide +kernel
theorem dX12_dish_107 : decode cX12_dish 107 = .ok (.invokevirtual 146, 3) := by decide +kernel
theorem dX12_dish_110 : decode cX12_dish 110 = .ok (.ireturn, 1) := by decide +kernel
theorem dX12_isEnough_0 : decode cX12_isEnough 0 = .ok (.iconst 0, 1) := by decide +kernel
theorem dX12_isEnough_1 : decode cX12_isEnough 1 = .ok (.istore_n 1, 1) := by decide +kernel
theorem dX12_isEnough_2 : decode cX12_isEnough 2 = .ok (.iload_n 1, 1) := by decide +kernel
theorem dX12_isEnough_3 : decode cX12_isEnough 3 = .ok (.aload_n 0, 1) := by decide +kernel
theorem dX12_isEnough_4 : decode cX12_isEnough 4 = .ok (.getfield 13, 3) := by decide +kernel
theorem dX12_isEnough_7 : decode cX12_isEnough 7 = .ok (.iconst 2, 1) := by decide +kernel
theorem dX12_isEnough_8 : decode cX12_isEnough 8 = .ok (.iaload, 1) := by decide +kernel
theorem dX12_isEnough_9 : decode cX12_isEnough 9 = .ok (.if_icmp .ge 63, 3) := by decide +kernel
theorem dX12_isEnough_12 : decode cX12_isEnough 12 = .ok (.iconst 0, 1) := by decide +kernel
theorem dX12_isEnough_13 : decode cX12_isEnough 13 = .ok (.istore_n 2, 1) := by decide +kernel
theorem dX12_isEnough_14 : decode cX12_isEnough 14 = .ok (.iconst 0, 1) := by decide +kernel
theorem dX12_isEnough_15 : decode cX12_isEnough 15 = .ok (.istore_n 3, 1) := by decide +kernel
theorem dX12_isEnough_16 : decode cX12_isEnough 16 = .ok (.iload_n 3, 1) := by decide +kernel
theorem dX12_isEnough_17 : decode cX12_isEnough 17 = .ok (.aload_n 0, 1) := by decide +kernel
theorem dX12_isEnough_18 : decode cX12_isEnough 18 = .ok (.getfield 13, 3) := by decide +kernel
theorem dX12_isEnough_21 : decode cX12_isEnough 21 = .ok (.iconst 1, 1) := by decide +kernel
theorem dX12_isEnough_22 : decode cX12_isEnough 22 = .ok (.iaload, 1) := by decide +kernel
theorem dX12_isEnough_23 : decode cX12_isEnough 23 = .ok (.if_icmp .ge 29, 3) := by decide +kernel
theorem dX12_isEnough_26 : decode cX12_isEnough 26 = .ok (.iload_n 2, 1) := by decide +kernel
theorem dX12_isEnough_27 : decode cX12_isEnough 27 = .ok (.aload_n 0, 1) := by decide +kernel
theorem dX12_isEnough_28 : decode cX12_isEnough 28 = .ok (.iload_n 3, 1) := by decide +kernel
theorem dX12_isEnough_29 : decode cX12_isEnough 29 = .ok (.invokevirtual 137, 3) := by decide +kernel
theorem dX12_isEnough_32 : decode cX12_isEnough 32 = .ok (.iload_n 1, 1) := by decide +kernel
theorem dX12_isEnough_33 : decode cX12_isEnough 33 = .ok (.invokestatic 149, 3) := by decide +kernel
theorem dX12_isEnough_36 : decode cX12_isEnough 36 = .ok (.ifCond .eq 7, 3) := by decide +kernel
theorem dX12_isEnough_39 : decode cX12_isEnough 39 = .ok (.iconst 1, 1) := by decide +kernel
theorem dX12_isEnough_40 : decode cX12_isEnough 40 = .ok (.goto 4, 3) := by decide +kernel
theorem dX12_isEnough_43 : decode cX12_isEnough 43 = .ok (.iconst 0, 1) := by decide +kernel
theorem dX12_isEnough_44 : decode cX12_isEnough 44 = .ok (.iadd, 1) := by decide +kernel
theorem dX12_isEnough_45 : decode cX12_isEnough 45 = .ok (.istore_n 2, 1) := by decide +kernel
theorem dX12_isEnough_46 : decode cX12_isEnough 46 = .ok (.iinc 3 1, 3) := by decide +kernel
theorem dX12_isEnough_49 : decode cX12_isEnough 49 = .ok (.goto (-33), 3) := by decide +kernel
theorem dX12_isEnough_52 : decode cX12_isEnough 52 = .ok (.iload_n 2, 1) := by decide +kernel
theorem dX12_isEnough_53 : decode cX12_isEnough 53 = .ok (.aload_n 0, 1) := by decide +kernel
theorem dX12_isEnough_54 : decode cX12_isEnough 54 = .ok (.getfield 28, 3) := by decide +kernel
theorem dX12_isEnough_57 : decode cX12_isEnough 57 = .ok (.iconst 1, 1) := by decide +kernel
theorem dX12_isEnough_58 : decode cX12_isEnough 58 = .ok (.iload_n 1, 1) := by decide +kernel
theorem dX12_isEnough_59 : decode cX12_isEnough 59 = .ok (.iadd, 1) := by decide +kernel
theorem dX12_isEnough_60 : decode cX12_isEnough 60 = .ok (.iaload, 1) := by decide +kernel
theorem dX12_isEnough_61 : decode cX12_isEnough 61 = .ok (.if_icmp .le 5, 3) := by decide +kernel
theorem dX12_isEnough_64 : decode cX12_isEnough 64 = .ok (.iconst 0, 1) := by decide +kernel
theorem dX12_isEnough_65 : decode cX12_isEnough 65 = .ok (.ireturn, 1) := by decide +kernel
theorem dX12_isEnough_66 : decode cX12_isEnough 66 = .ok (.iinc 1 1, 3) := by decide +kernel
theorem dX12_isEnough_69 : decode cX12_isEnough 69 = .ok (.goto (-67), 3) := by decide +kernel
theorem dX12_isEnough_72 : decode cX12_isEnough 72 = .ok (.iconst 1, 1) := by decide +kernel
theorem dX12_isEnough_73 : decode cX12_isEnough 73 = .ok (.ireturn, 1) := by decide +kernel
theorem dX12_isAll_0 : decode cX12_isAll 0 = .ok (.iconst 0, 1) := by decide +kernel
theorem dX12_isAll_1 : decode cX12_isAll 1 = .ok (.istore_n 3, 1) := by decide +kernel
theorem dX12_isAll_2 : decode cX12_isAll 2 = .ok (.iload_n 3, 1) := by decide +kernel
theorem dX12_isAll_3 : decode cX12_isAll 3 = .ok (.aload_n 0, 1) := by decide +kernel
theorem dX12_isAll_4 : decode cX12_isAll 4 = .ok (.getfield 13, 3) := by decide +kernel
theorem dX12_isAll_7 : decode cX12_isAll 7 = .ok (.iconst 1, 1) := by decide +kernel
theorem dX12_isAll_8 : decode cX12_isAll 8 = .ok (.iaload, 1) := by decide +kernel
theorem dX12_isAll_9 : decode cX12_isAll 9 = .ok (.if_icmp .ge 117, 3) := by decide +kernel
theorem dX12_isAll_12 : decode cX12_isAll 12 = .ok (.iconst 0, 1) := by decide +kernel
theorem dX12_isAll_13 : decode cX12_isAll 13 = .ok (.istore 4, 2) := by decide +kernel
theorem dX12_isAll_15 : decode cX12_isAll 15 = .ok (.iload 4, 2) := by decide +kernel
theorem dX12_isAll_17 : decode cX12_isAll 17 = .ok (.aload_n 0, 1) := by decide +kernel
theorem dX12_isAll_18 : decode cX12_isAll 18 = .ok (.getfield 13, 3) := by decide +kernel
theorem dX12_isAll_21 : decode cX12_isAll 21 = .ok (.iconst 2, 1) := by decide +kernel
theorem dX12_isAll_22 : decode cX12_isAll 22 = .ok (.iaload, 1) := by decide +kernel
theorem dX12_isAll_23 : decode cX12_isAll 23 = .ok (.if_icmp .ge 97, 3) := by decide +kernel
theorem dX12_isAll_26 : decode cX12_isAll 26 = .ok (.aload_n 0, 1) := by decide +kernel
theorem dX12_isAll_27 : decode cX12_isAll 27 = .ok (.iload_n 3, 1) := by decide +kernel
theorem dX12_isAll_28 : decode cX12_isAll 28 = .ok (.invokevirtual 137, 3) := by decide +kernel
theorem dX12_isAll_31 : decode cX12_isAll 31 = .ok (.iload 4, 2) := by decide +kernel
theorem dX12_isAll_33 : decode cX12_isAll 33 = .ok (.invokestatic 149, 3) := by decide +kernel
theorem dX12_isAll_36 : decode cX12_isAll 36 = .ok (.ifCond .ne 7, 3) := by decide +kernel
theorem dX12_isAll_39 : decode cX12_isAll 39 = .ok (.iconst 1, 1) := by decide +kernel
theorem dX12_isAll_40 : decode cX12_isAll 40 = .ok (.goto 4, 3) := by decide +kernel
theorem dX12_isAll_43 : decode cX12_isAll 43 = .ok (.iconst 0, 1) := by decide +kernel
theorem dX12_isAll_44 : decode cX12_isAll 44 = .ok (.istore 5, 2) := by decide +kernel
theorem dX12_isAll_46 : decode cX12_isAll 46 = .ok (.iload_n 1, 1) := by decide +kernel
theorem dX12_isAll_47 : decode cX12_isAll 47 = .ok (.ineg, 1) := by decide +kernel
theorem dX12_isAll_48 : decode cX12_isAll 48 = .ok (.istore 6, 2) := by decide +kernel
theorem dX12_isAll_50 : decode cX12_isAll 50 = .ok (.iload 6, 2) := by decide +kernel
theorem dX12_isAll_52 : decode cX12_isAll 52 = .ok (.iload_n 2, 1) := by decide +kernel
theorem dX12_isAll_53 : decode cX12_isAll 53 = .ok (.if_icmp .gt 54, 3) := by decide +kernel
theorem dX12_isAll_56 : decode cX12_isAll 56 = .ok (.iload 5, 2) := by decide +kernel
theorem dX12_isAll_58 : decode cX12_isAll 58 = .ok (.ifCond .ne 36, 3) := by decide +kernel
theorem dX12_isAll_61 : decode cX12_isAll 61 = .ok (.aload_n 0, 1) := by decide +kernel
theorem dX12_isAll_62 : decode cX12_isAll 62 = .ok (.iload_n 3, 1) := by decide +kernel
theorem dX12_isAll_63 : decode cX12_isAll 63 = .ok (.iload 4, 2) := by decide +kernel
theorem dX12_isAll_65 : decode cX12_isAll 65 = .ok (.aload_n 0, 1) := by decide +kernel
theorem dX12_isAll_66 : decode cX12_isAll 66 = .ok (.getfield 28, 3) := by decide +kernel
theorem dX12_isAll_69 : decode cX12_isAll 69 = .ok (.iconst 0, 1) := by decide +kernel
theorem dX12_isAll_70 : decode cX12_isAll 70 = .ok (.iaload, 1) := by decide +kernel
theorem dX12_isAll_71 : decode cX12_isAll 71 = .ok (.iload 6, 2) := by decide +kernel
theorem dX12_isAll_73 : decode cX12_isAll 73 = .ok (.iadd, 1) := by decide +kernel
theorem dX12_isAll_74 : decode cX12_isAll 74 = .ok (.aload_n 0, 1) := by decide +kernel
theorem dX12_isAll_75 : decode cX12_isAll 75 = .ok (.getfield 13, 3) := by decide +kernel
theorem dX12_isAll_78 : decode cX12_isAll 78 = .ok (.iconst 0, 1) := by decide +kernel
theorem dX12_isAll_79 : decode cX12_isAll 79 = .ok (.iaload, 1) := by decide +kernel
theorem dX12_isAll_80 : decode cX12_isAll 80 = .ok (.iadd, 1) := by decide +kernel
theorem dX12_isAll_81 : decode cX12_isAll 81 = .ok (.aload_n 0, 1) := by decide +kernel
theorem dX12_isAll_82 : decode cX12_isAll 82 = .ok (.getfield 13, 3) := by decide +kernel
theorem dX12_isAll_85 : decode cX12_isAll 85 = .ok (.iconst 0, 1) := by decide +kernel
theorem dX12_isAll_86 : decode cX12_isAll 86 = .ok (.iaload, 1) := by decide +kernel
theorem dX12_isAll_87 : decode cX12_isAll 87 = .ok (.irem, 1) := by decide +kernel
theorem dX12_isAll_88 : decode cX12_isAll 88 = .ok (.invokevirtual 131, 3) := by decide +kernel
theorem dX12_isAll_91 : decode cX12_isAll 91 = .ok (.ifCond .eq 7, 3) := by decide +kernel
theorem dX12_isAll_94 : decode cX12_isAll 94 = .ok (.iconst 1, 1) := by decide +kernel
theorem dX12_isAll_95 : decode cX12_isAll 95 = .ok (.goto 4, 3) := by decide +kernel
theorem dX12_isAll_98 : decode cX12_isAll 98 = .ok (.iconst 0, 1) := by decide +kernel
theorem dX12_isAll_99 : decode cX12_isAll 99 = .ok (.istore 5, 2) := by decide +kernel
theorem dX12_isAll_101 : decode cX12_isAll 101 = .ok (.iinc 6 1, 3) := by decide +kernel
theorem dX12_isAll_104 : decode cX12_isAll 104 = .ok (.goto (-54), 3) := by decide +kernel
theorem dX12_isAll_107 : decode cX12_isAll 107 = .ok (.iload 5, 2) := by decide +kernel
theorem dX12_isAll_109 : decode cX12_isAll 109 = .ok (.ifCond .ne 5, 3) := by decide +kernel
theorem dX12_isAll_112 : decode cX12_isAll 112 = .ok (.iconst 0, 1) := by decide +kernel
theorem dX12_isAll_113 : decode cX12_isAll 113 = .ok (.ireturn, 1) := by decide +kernel
theorem dX12_isAll_114 : decode cX12_isAll 114 = .ok (.iinc 4 1, 3) := by decide +kernel
theorem dX12_isAll_117 : decode cX12_isAll 117 = .ok (.goto (-102), 3) := by decide +kernel
theorem dX12_isAll_120 : decode cX12_isAll 120 = .ok (.iinc 3 1, 3) := by decide +kernel
theorem dX12_isAll_123 : decode cX12_isAll 123 = .ok (.goto (-121), 3) := by decide +kernel
theorem dX12_isAll_126 : decode cX12_isAll 126 = .ok (.iconst 1, 1) := by decide +kernel
theorem dX12_isAll_127 : decode cX12_isAll 127 = .ok (.ireturn, 1) := by decide +kernel
theorem dX12_tourOf_0 : decode cX12_tourOf 0 = .ok (.aload_n 0, 1) := by decide +kernel
theorem dX12_tourOf_1 : decode cX12_tourOf 1 = .ok (.invokevirtual 153, 3) := by decide +kernel
theorem dX12_tourOf_4 : decode cX12_tourOf 4 = .ok (.ifCond .ne 6, 3) := by decide +kernel
theorem dX12_tourOf_7 : decode cX12_tourOf 7 = .ok (.bipush (-9), 2) := by decide +kernel
theorem dX12_tourOf_9 : decode cX12_tourOf 9 = .ok (.ireturn, 1) := by decide +kernel
theorem dX12_tourOf_10 : decode cX12_tourOf 10 = .ok (.bipush 99, 2) := by decide +kernel
theorem dX12_tourOf_12 : decode cX12_tourOf 12 = .ok (.istore_n 1, 1) := by decide +kernel
theorem dX12_tourOf_13 : decode cX12_tourOf 13 = .ok (.iconst 0, 1) := by decide +kernel
theorem dX12_tourOf_14 : decode cX12_tourOf 14 = .ok (.istore_n 2, 1) := by decide +kernel
theorem dX12_tourOf_15 : decode cX12_tourOf 15 = .ok (.iload_n 2, 1) := by decide +kernel
theorem dX12_tourOf_16 : decode cX12_tourOf 16 = .ok (.aload_n 0, 1) := by decide +kernel
theorem dX12_tourOf_17 : decode cX12_tourOf 17 = .ok (.getfield 13, 3) := by decide +kernel
theorem dX12_tourOf_20 : decode cX12_tourOf 20 = .ok (.iconst 0, 1) := by decide +kernel
theorem dX12_tourOf_21 : decode cX12_tourOf 21 = .ok (.iaload, 1) := by decide +kernel
theorem dX12_tourOf_22 : decode cX12_tourOf 22 = .ok (.if_icmp .ge 67, 3) := by decide +kernel
theorem dX12_tourOf_25 : decode cX12_tourOf 25 = .ok (.iconst 0, 1) := by decide +kernel
theorem dX12_tourOf_26 : decode cX12_tourOf 26 = .ok (.istore_n 3, 1) := by decide +kernel
theorem dX12_tourOf_27 : decode cX12_tourOf 27 = .ok (.iload_n 2, 1) := by decide +kernel
theorem dX12_tourOf_28 : decode cX12_tourOf 28 = .ok (.iload_n 3, 1) := by decide +kernel
theorem dX12_tourOf_29 : decode cX12_tourOf 29 = .ok (.iadd, 1) := by decide +kernel
theorem dX12_tourOf_30 : decode cX12_tourOf 30 = .ok (.aload_n 0, 1) := by decide +kernel
theorem dX12_tourOf_31 : decode cX12_tourOf 31 = .ok (.getfield 13, 3) := by decide +kernel
theorem dX12_tourOf_34 : decode cX12_tourOf 34 = .ok (.iconst 0, 1) := by decide +kernel
theorem dX12_tourOf_35 : decode cX12_tourOf 35 = .ok (.iaload, 1) := by decide +kernel
theorem dX12_tourOf_36 : decode cX12_tourOf 36 = .ok (.if_icmp .ge 47, 3) := by decide +kernel
theorem dX12_tourOf_39 : decode cX12_tourOf 39 = .ok (.iload_n 2, 1) := by decide +kernel
theorem dX12_tourOf_40 : decode cX12_tourOf 40 = .ok (.iload_n 3, 1) := by decide +kernel
theorem dX12_tourOf_41 : decode cX12_tourOf 41 = .ok (.iadd, 1) := by decide +kernel
theorem dX12_tourOf_42 : decode cX12_tourOf 42 = .ok (.iload_n 2, 1) := by decide +kernel
theorem dX12_tourOf_43 : decode cX12_tourOf 43 = .ok (.iload_n 3, 1) := by decide +kernel
theorem dX12_tourOf_44 : decode cX12_tourOf 44 = .ok (.if_icmp .ge 7, 3) := by decide +kernel
theorem dX12_tourOf_47 : decode cX12_tourOf 47 = .ok (.iload_n 2, 1) := by decide +kernel
theorem dX12_tourOf_48 : decode cX12_tourOf 48 = .ok (.goto 4, 3) := by decide +kernel
theorem dX12_tourOf_51 : decode cX12_tourOf 51 = .ok (.iload_n 3, 1) := by decide +kernel
theorem dX12_tourOf_52 : decode cX12_tourOf 52 = .ok (.iadd, 1) := by decide +kernel
theorem dX12_tourOf_53 : decode cX12_tourOf 53 = .ok (.istore 4, 2) := by decide +kernel
theorem dX12_tourOf_55 : decode cX12_tourOf 55 = .ok (.iload 4, 2) := by decide +kernel
theorem dX12_tourOf_57 : decode cX12_tourOf 57 = .ok (.iload_n 1, 1) := by decide +kernel
theorem dX12_tourOf_58 : decode cX12_tourOf 58 = .ok (.if_icmp .ge 17, 3) := by decide +kernel
theorem dX12_tourOf_61 : decode cX12_tourOf 61 = .ok (.aload_n 0, 1) := by decide +kernel
theorem dX12_tourOf_62 : decode cX12_tourOf 62 = .ok (.iload_n 2, 1) := by decide +kernel
theorem dX12_tourOf_63 : decode cX12_tourOf 63 = .ok (.iload_n 3, 1) := by decide +kernel
theorem dX12_tourOf_64 : decode cX12_tourOf 64 = .ok (.invokevirtual 156, 3) := by decide +kernel
theorem dX12_tourOf_67 : decode cX12_tourOf 67 = .ok (.ifCond .eq 8, 3) := by decide +kernel
theorem dX12_tourOf_70 : decode cX12_tourOf 70 = .ok (.iload 4, 2) := by decide +kernel
theorem dX12_tourOf_72 : decode cX12_tourOf 72 = .ok (.goto 4, 3) := by decide +kernel
theorem dX12_tourOf_75 : decode cX12_tourOf 75 = .ok (.iload_n 1, 1) := by decide +kernel
theorem dX12_tourOf_76 : decode cX12_tourOf 76 = .ok (.istore_n 1, 1) := by decide +kernel
theorem dX12_tourOf_77 : decode cX12_tourOf 77 = .ok (.iinc 3 1, 3) := by decide +kernel
theorem dX12_tourOf_80 : decode cX12_tourOf 80 = .ok (.goto (-53), 3) := by decide +kernel
theorem dX12_tourOf_83 : decode cX12_tourOf 83 = .ok (.iinc 2 1, 3) := by decide +kernel
theorem dX12_tourOf_86 : decode cX12_tourOf 86 = .ok (.goto (-71), 3) := by decide +kernel
theorem dX12_tourOf_89 : decode cX12_tourOf 89 = .ok (.iload_n 1, 1) := by decide +kernel
theorem dX12_tourOf_90 : decode cX12_tourOf 90 = .ok (.ireturn, 1) := by decide +kernel
theorem dX12_trades_0 : decode cX12_trades 0 = .ok (.aload_n 0, 1) := by decide +kernel
theorem dX12_trades_1 : decode cX12_trades 1 = .ok (.getfield 28, 3) := by decide +kernel
theorem dX12_trades_4 : decode cX12_trades 4 = .ok (.bipush 13, 2) := by decide +kernel
theorem dX12_trades_6 : decode cX12_trades 6 = .ok (.iload_n 1, 1) := by decide +kernel
theorem dX12_trades_7 : decode cX12_trades 7 = .ok (.iadd, 1) := by decide +kernel
theorem dX12_trades_8 : decode cX12_trades 8 = .ok (.iaload, 1) := by decide +kernel
theorem dX12_trades_9 : decode cX12_trades 9 = .ok (.istore_n 3, 1) := by decide +kernel
theorem dX12_trades_10 : decode cX12_trades 10 = .ok (.aload_n 0, 1) := by decide +kernel
theorem dX12_trades_11 : decode cX12_trades 11 = .ok (.getfield 28, 3) := by decide +kernel
theorem dX12_trades_14 : decode cX12_trades 14 = .ok (.bipush 13, 2) := by decide +kernel
theorem dX12_trades_16 : decode cX12_trades 16 = .ok (.iload_n 1, 1) := by decide +kernel
theorem dX12_trades_17 : decode cX12_trades 17 = .ok (.iadd, 1) := by decide +kernel
theorem dX12_trades_18 : decode cX12_trades 18 = .ok (.aload_n 0, 1) := by decide +kernel
theorem dX12_trades_19 : decode cX12_trades 19 = .ok (.getfield 28, 3) := by decide +kernel
theorem dX12_trades_22 : decode cX12_trades 22 = .ok (.bipush 13, 2) := by decide +kernel
theorem dX12_trades_24 : decode cX12_trades 24 = .ok (.iload_n 2, 1) := by decide +kernel
theorem dX12_trades_25 : decode cX12_trades 25 = .ok (.iadd, 1) := by decide +kernel
theorem dX12_trades_26 : decode cX12_trades 26 = .ok (.iaload, 1) := by decide +kernel
theorem dX12_trades_27 : decode cX12_trades 27 = .ok (.iastore, 1) := by decide +kernel
theorem dX12_trades_28 : decode cX12_trades 28 = .ok (.aload_n 0, 1) := by decide +kernel
theorem dX12_trades_29 : decode cX12_trades 29 = .ok (.getfield 28, 3) := by decide +kernel
theorem dX12_trades_32 : decode cX12_trades 32 = .ok (.bipush 13, 2) := by decide +kernel
theorem dX12_trades_34 : decode cX12_trades 34 = .ok (.iload_n 2, 1) := by decide +kernel
theorem dX12_trades_35 : decode cX12_trades 35 = .ok (.iadd, 1) := by decide +kernel
theorem dX12_trades_36 : decode cX12_trades 36 = .ok (.iload_n 3, 1) := by decide +kernel
theorem dX12_trades_37 : decode cX12_trades 37 = .ok (.iastore, 1) := by decide +kernel
theorem dX12_trades_38 : decode cX12_trades 38 = .ok (.return_, 1) := by decide +kernel
theorem dX12_swapOf_0 : decode cX12_swapOf 0 = .ok (.bipush (-9), 2) := by decide +kernel
theorem dX12_swapOf_2 : decode cX12_swapOf 2 = .ok (.istore_n 1, 1) := by decide +kernel
theorem dX12_swapOf_3 : decode cX12_swapOf 3 = .ok (.aload_n 0, 1) := by decide +kernel
theorem dX12_swapOf_4 : decode cX12_swapOf 4 = .ok (.invokevirtual 159, 3) := by decide +kernel
theorem dX12_swapOf_7 : decode cX12_swapOf 7 = .ok (.istore_n 2, 1) := by decide +kernel
theorem dX12_swapOf_8 : decode cX12_swapOf 8 = .ok (.iconst 0, 1) := by decide +kernel
theorem dX12_swapOf_9 : decode cX12_swapOf 9 = .ok (.istore_n 3, 1) := by decide +kernel
theorem dX12_swapOf_10 : decode cX12_swapOf 10 = .ok (.iload_n 3, 1) := by decide +kernel
theorem dX12_swapOf_11 : decode cX12_swapOf 11 = .ok (.aload_n 0, 1) := by decide +kernel
theorem dX12_swapOf_12 : decode cX12_swapOf 12 = .ok (.getfield 13, 3) := by decide +kernel
theorem dX12_swapOf_15 : decode cX12_swapOf 15 = .ok (.iconst 1, 1) := by decide +kernel
theorem dX12_swapOf_16 : decode cX12_swapOf 16 = .ok (.iaload, 1) := by decide +kernel
theorem dX12_swapOf_17 : decode cX12_swapOf 17 = .ok (.if_icmp .ge 88, 3) := by decide +kernel
theorem dX12_swapOf_20 : decode cX12_swapOf 20 = .ok (.iload_n 2, 1) := by decide +kernel
theorem dX12_swapOf_21 : decode cX12_swapOf 21 = .ok (.bipush (-9), 2) := by decide +kernel
theorem dX12_swapOf_23 : decode cX12_swapOf 23 = .ok (.if_icmp .eq 82, 3) := by decide +kernel
theorem dX12_swapOf_26 : decode cX12_swapOf 26 = .ok (.iload_n 3, 1) := by decide +kernel
theorem dX12_swapOf_27 : decode cX12_swapOf 27 = .ok (.iconst 1, 1) := by decide +kernel
theorem dX12_swapOf_28 : decode cX12_swapOf 28 = .ok (.iadd, 1) := by decide +kernel
theorem dX12_swapOf_29 : decode cX12_swapOf 29 = .ok (.istore 4, 2) := by decide +kernel
theorem dX12_swapOf_31 : decode cX12_swapOf 31 = .ok (.iload 4, 2) := by decide +kernel
theorem dX12_swapOf_33 : decode cX12_swapOf 33 = .ok (.aload_n 0, 1) := by decide +kernel
theorem dX12_swapOf_34 : decode cX12_swapOf 34 = .ok (.getfield 13, 3) := by decide +kernel
theorem dX12_swapOf_37 : decode cX12_swapOf 37 = .ok (.iconst 1, 1) := by decide +kernel
theorem dX12_swapOf_38 : decode cX12_swapOf 38 = .ok (.iaload, 1) := by decide +kernel
theorem dX12_swapOf_39 : decode cX12_swapOf 39 = .ok (.if_icmp .ge 60, 3) := by decide +kernel
theorem dX12_swapOf_42 : decode cX12_swapOf 42 = .ok (.aload_n 0, 1) := by decide +kernel
theorem dX12_swapOf_43 : decode cX12_swapOf 43 = .ok (.iload_n 3, 1) := by decide +kernel
theorem dX12_swapOf_44 : decode cX12_swapOf 44 = .ok (.iload 4, 2) := by decide +kernel
theorem dX12_swapOf_46 : decode cX12_swapOf 46 = .ok (.invokevirtual 162, 3) := by decide +kernel
theorem dX12_swapOf_49 : decode cX12_swapOf 49 = .ok (.aload_n 0, 1) := by decide +kernel
theorem dX12_swapOf_50 : decode cX12_swapOf 50 = .ok (.invokevirtual 159, 3) := by decide +kernel
theorem dX12_swapOf_53 : decode cX12_swapOf 53 = .ok (.istore 5, 2) := by decide +kernel
theorem dX12_swapOf_55 : decode cX12_swapOf 55 = .ok (.iload 5, 2) := by decide +kernel
theorem dX12_swapOf_57 : decode cX12_swapOf 57 = .ok (.iload_n 2, 1) := by decide +kernel
theorem dX12_swapOf_58 : decode cX12_swapOf 58 = .ok (.if_icmp .ge 13, 3) := by decide +kernel
theorem dX12_swapOf_61 : decode cX12_swapOf 61 = .ok (.bipush 10, 2) := by decide +kernel
theorem dX12_swapOf_63 : decode cX12_swapOf 63 = .ok (.iload_n 3, 1) := by decide +kernel
theorem dX12_swapOf_64 : decode cX12_swapOf 64 = .ok (.imul, 1) := by decide +kernel
theorem dX12_swapOf_65 : decode cX12_swapOf 65 = .ok (.iload 4, 2) := by decide +kernel
theorem dX12_swapOf_67 : decode cX12_swapOf 67 = .ok (.iadd, 1) := by decide +kernel
theorem dX12_swapOf_68 : decode cX12_swapOf 68 = .ok (.goto 4, 3) := by decide +kernel
theorem dX12_swapOf_71 : decode cX12_swapOf 71 = .ok (.iload_n 1, 1) := by decide +kernel
theorem dX12_swapOf_72 : decode cX12_swapOf 72 = .ok (.istore_n 1, 1) := by decide +kernel
theorem dX12_swapOf_73 : decode cX12_swapOf 73 = .ok (.iload 5, 2) := by decide +kernel
theorem dX12_swapOf_75 : decode cX12_swapOf 75 = .ok (.iload_n 2, 1) := by decide +kernel
theorem dX12_swapOf_76 : decode cX12_swapOf 76 = .ok (.if_icmp .ge 8, 3) := by decide +kernel
theorem dX12_swapOf_79 : decode cX12_swapOf 79 = .ok (.iload 5, 2) := by decide +kernel
theorem dX12_swapOf_81 : decode cX12_swapOf 81 = .ok (.goto 4, 3) := by decide +kernel
theorem dX12_swapOf_84 : decode cX12_swapOf 84 = .ok (.iload_n 2, 1) := by decide +kernel
theorem dX12_swapOf_85 : decode cX12_swapOf 85 = .ok (.istore_n 2, 1) := by decide +kernel
theorem dX12_swapOf_86 : decode cX12_swapOf 86 = .ok (.aload_n 0, 1) := by decide +kernel
theorem dX12_swapOf_87 : decode cX12_swapOf 87 = .ok (.iload_n 3, 1) := by decide +kernel
theorem dX12_swapOf_88 : decode cX12_swapOf 88 = .ok (.iload 4, 2) := by decide +kernel
theorem dX12_swapOf_90 : decode cX12_swapOf 90 = .ok (.invokevirtual 162, 3) := by decide +kernel
theorem dX12_swapOf_93 : decode cX12_swapOf 93 = .ok (.iinc 4 1, 3) := by decide +kernel
theorem dX12_swapOf_96 : decode cX12_swapOf 96 = .ok (.goto (-65), 3) := by decide +kernel
theorem dX12_swapOf_99 : decode cX12_swapOf 99 = .ok (.iinc 3 1, 3) := by decide +kernel
theorem dX12_swapOf_102 : decode cX12_swapOf 102 = .ok (.goto (-92), 3) := by decide +kernel
theorem dX12_swapOf_105 : decode cX12_swapOf 105 = .ok (.iload_n 1, 1) := by decide +kernel
theorem dX12_swapOf_106 : decode cX12_swapOf 106 = .ok (.ireturn, 1) := by decide +kernel
theorem dX12_sevens_0 : decode cX12_sevens 0 = .ok (.iconst 1, 1) := by decide +kernel
theorem dX12_sevens_1 : decode cX12_sevens 1 = .ok (.istore_n 1, 1) := by decide +kernel
theorem dX12_sevens_2 : decode cX12_sevens 2 = .ok (.iconst 0, 1) := by decide +kernel
theorem dX12_sevens_3 : decode cX12_sevens 3 = .ok (.istore_n 2, 1) := by decide +kernel
theorem dX12_sevens_4 : decode cX12_sevens 4 = .ok (.iload_n 2, 1) := by decide +kernel
theorem dX12_sevens_5 : decode cX12_sevens 5 = .ok (.iload_n 0, 1) := by decide +kernel
theorem dX12_sevens_6 : decode cX12_sevens 6 = .ok (.if_icmp .ge 14, 3) := by decide +kernel
theorem dX12_sevens_9 : decode cX12_sevens 9 = .ok (.iload_n 1, 1) := by decide +kernel
theorem dX12_sevens_10 : decode cX12_sevens 10 = .ok (.bipush 7, 2) := by decide +kernel
theorem dX12_sevens_12 : decode cX12_sevens 12 = .ok (.imul, 1) := by decide +kernel
theorem dX12_sevens_13 : decode cX12_sevens 13 = .ok (.istore_n 1, 1) := by decide +kernel
theorem dX12_sevens_14 : decode cX12_sevens 14 = .ok (.iinc 2 1, 3) := by decide +kernel
theorem dX12_sevens_17 : decode cX12_sevens 17 = .ok (.goto (-13), 3) := by decide +kernel
theorem dX12_sevens_20 : decode cX12_sevens 20 = .ok (.iload_n 1, 1) := by decide +kernel
theorem dX12_sevens_21 : decode cX12_sevens 21 = .ok (.ireturn, 1) := by decide +kernel
theorem dX12_havingBy_0 : decode cX12_havingBy 0 = .ok (.iconst 0, 1) := by decide +kernel
theorem dX12_havingBy_1 : decode cX12_havingBy 1 = .ok (.istore_n 2, 1) := by decide +kernel
theorem dX12_havingBy_2 : decode cX12_havingBy 2 = .ok (.iload_n 2, 1) := by decide +kernel
theorem dX12_havingBy_3 : decode cX12_havingBy 3 = .ok (.bipush 6, 2) := by decide +kernel
theorem dX12_havingBy_5 : decode cX12_havingBy 5 = .ok (.if_icmp .ge 37, 3) := by decide +kernel
theorem dX12_havingBy_8 : decode cX12_havingBy 8 = .ok (.aload_n 0, 1) := by decide +kernel
theorem dX12_havingBy_9 : decode cX12_havingBy 9 = .ok (.getfield 56, 3) := by decide +kernel
theorem dX12_havingBy_12 : decode cX12_havingBy 12 = .ok (.iload_n 2, 1) := by decide +kernel
theorem dX12_havingBy_13 : decode cX12_havingBy 13 = .ok (.iload_n 2, 1) := by decide +kernel
theorem dX12_havingBy_14 : decode cX12_havingBy 14 = .ok (.aload_n 0, 1) := by decide +kernel
theorem dX12_havingBy_15 : decode cX12_havingBy 15 = .ok (.getfield 13, 3) := by decide +kernel
theorem dX12_havingBy_18 : decode cX12_havingBy 18 = .ok (.iconst 2, 1) := by decide +kernel
theorem dX12_havingBy_19 : decode cX12_havingBy 19 = .ok (.iaload, 1) := by decide +kernel
theorem dX12_havingBy_20 : decode cX12_havingBy 20 = .ok (.if_icmp .ge 14, 3) := by decide +kernel
theorem dX12_havingBy_23 : decode cX12_havingBy 23 = .ok (.aload_n 0, 1) := by decide +kernel
theorem dX12_havingBy_24 : decode cX12_havingBy 24 = .ok (.getfield 28, 3) := by decide +kernel
theorem dX12_havingBy_27 : decode cX12_havingBy 27 = .ok (.iconst 1, 1) := by decide +kernel
theorem dX12_havingBy_28 : decode cX12_havingBy 28 = .ok (.iload_n 2, 1) := by decide +kernel
theorem dX12_havingBy_29 : decode cX12_havingBy 29 = .ok (.iadd, 1) := by decide +kernel
theorem dX12_havingBy_30 : decode cX12_havingBy 30 = .ok (.iaload, 1) := by decide +kernel
theorem dX12_havingBy_31 : decode cX12_havingBy 31 = .ok (.goto 4, 3) := by decide +kernel
theorem dX12_havingBy_34 : decode cX12_havingBy 34 = .ok (.iconst 0, 1) := by decide +kernel
theorem dX12_havingBy_35 : decode cX12_havingBy 35 = .ok (.iastore, 1) := by decide +kernel
theorem dX12_havingBy_36 : decode cX12_havingBy 36 = .ok (.iinc 2 1, 3) := by decide +kernel
theorem dX12_havingBy_39 : decode cX12_havingBy 39 = .ok (.goto (-37), 3) := by decide +kernel
theorem dX12_havingBy_42 : decode cX12_havingBy 42 = .ok (.iload_n 1, 1) := by decide +kernel
theorem dX12_havingBy_43 : decode cX12_havingBy 43 = .ok (.istore_n 2, 1) := by decide +kernel
theorem dX12_havingBy_44 : decode cX12_havingBy 44 = .ok (.iconst 0, 1) := by decide +kernel
theorem dX12_havingBy_45 : decode cX12_havingBy 45 = .ok (.istore_n 3, 1) := by decide +kernel
theorem dX12_havingBy_46 : decode cX12_havingBy 46 = .ok (.aload_n 0, 1) := by decide +kernel
theorem dX12_havingBy_47 : decode cX12_havingBy 47 = .ok (.getfield 13, 3) := by decide +kernel
theorem dX12_havingBy_50 : decode cX12_havingBy 50 = .ok (.iconst 1, 1) := by decide +kernel
theorem dX12_havingBy_51 : decode cX12_havingBy 51 = .ok (.iaload, 1) := by decide +kernel
theorem dX12_havingBy_52 : decode cX12_havingBy 52 = .ok (.iconst 1, 1) := by decide +kernel
theorem dX12_havingBy_53 : decode cX12_havingBy 53 = .ok (.isub, 1) := by decide +kernel
theorem dX12_havingBy_54 : decode cX12_havingBy 54 = .ok (.istore 4, 2) := by decide +kernel
theorem dX12_havingBy_56 : decode cX12_havingBy 56 = .ok (.iload 4, 2) := by decide +kernel
theorem dX12_havingBy_58 : decode cX12_havingBy 58 = .ok (.ifCond .lt 77, 3) := by decide +kernel
theorem dX12_havingBy_61 : decode cX12_havingBy 61 = .ok (.iload_n 2, 1) := by decide +kernel
theorem dX12_havingBy_62 : decode cX12_havingBy 62 = .ok (.bipush 7, 2) := by decide +kernel
theorem dX12_havingBy_64 : decode cX12_havingBy 64 = .ok (.irem, 1) := by decide +kernel
theorem dX12_havingBy_65 : decode cX12_havingBy 65 = .ok (.istore 5, 2) := by decide +kernel
theorem dX12_havingBy_67 : decode cX12_havingBy 67 = .ok (.iload_n 2, 1) := by decide +kernel
theorem dX12_havingBy_68 : decode cX12_havingBy 68 = .ok (.bipush 7, 2) := by decide +kernel
theorem dX12_havingBy_70 : decode cX12_havingBy 70 = .ok (.idiv, 1) := by decide +kernel
theorem dX12_havingBy_71 : decode cX12_havingBy 71 = .ok (.istore_n 2, 1) := by decide +kernel
theorem dX12_havingBy_72 : decode cX12_havingBy 72 = .ok (.aload_n 0, 1) := by decide +kernel
theorem dX12_havingBy_73 : decode cX12_havingBy 73 = .ok (.getfield 50, 3) := by decide +kernel
theorem dX12_havingBy_76 : decode cX12_havingBy 76 = .ok (.iload 4, 2) := by decide +kernel
theorem dX12_havingBy_78 : decode cX12_havingBy 78 = .ok (.iload 5, 2) := by decide +kernel
theorem dX12_havingBy_80 : decode cX12_havingBy 80 = .ok (.iastore, 1) := by decide +kernel
theorem dX12_havingBy_81 : decode cX12_havingBy 81 = .ok (.iload 5, 2) := by decide +kernel
theorem dX12_havingBy_83 : decode cX12_havingBy 83 = .ok (.bipush 6, 2) := by decide +kernel
theorem dX12_havingBy_85 : decode cX12_havingBy 85 = .ok (.if_icmp .ge 44, 3) := by decide +kernel
theorem dX12_havingBy_88 : decode cX12_havingBy 88 = .ok (.aload_n 0, 1) := by decide +kernel
theorem dX12_havingBy_89 : decode cX12_havingBy 89 = .ok (.iload 4, 2) := by decide +kernel
theorem dX12_havingBy_91 : decode cX12_havingBy 91 = .ok (.invokevirtual 137, 3) := by decide +kernel
theorem dX12_havingBy_94 : decode cX12_havingBy 94 = .ok (.iload 5, 2) := by decide +kernel
theorem dX12_havingBy_96 : decode cX12_havingBy 96 = .ok (.invokestatic 149, 3) := by decide +kernel
theorem dX12_havingBy_99 : decode cX12_havingBy 99 = .ok (.ifCond .eq 13, 3) := by decide +kernel
theorem dX12_havingBy_102 : decode cX12_havingBy 102 = .ok (.aload_n 0, 1) := by decide +kernel
theorem dX12_havingBy_103 : decode cX12_havingBy 103 = .ok (.getfield 56, 3) := by decide +kernel
theorem dX12_havingBy_106 : decode cX12_havingBy 106 = .ok (.iload 5, 2) := by decide +kernel
theorem dX12_havingBy_108 : decode cX12_havingBy 108 = .ok (.iaload, 1) := by decide +kernel
theorem dX12_havingBy_109 : decode cX12_havingBy 109 = .ok (.ifCond .ne 6, 3) := by decide +kernel
theorem dX12_havingBy_112 : decode cX12_havingBy 112 = .ok (.bipush (-9), 2) := by decide +kernel
theorem dX12_havingBy_114 : decode cX12_havingBy 114 = .ok (.ireturn, 1) := by decide +kernel
theorem dX12_havingBy_115 : decode cX12_havingBy 115 = .ok (.aload_n 0, 1) := by decide +kernel
theorem dX12_havingBy_116 : decode cX12_havingBy 116 = .ok (.getfield 56, 3) := by decide +kernel
theorem dX12_havingBy_119 : decode cX12_havingBy 119 = .ok (.iload 5, 2) := by decide +kernel
theorem dX12_havingBy_121 : decode cX12_havingBy 121 = .ok (.dup2, 1) := by decide +kernel
theorem dX12_havingBy_122 : decode cX12_havingBy 122 = .ok (.iaload, 1) := by decide +kernel
theorem dX12_havingBy_123 : decode cX12_havingBy 123 = .ok (.iconst 1, 1) := by decide +kernel
theorem dX12_havingBy_124 : decode cX12_havingBy 124 = .ok (.isub, 1) := by decide +kernel
theorem dX12_havingBy_125 : decode cX12_havingBy 125 = .ok (.iastore, 1) := by decide +kernel
theorem dX12_havingBy_126 : decode cX12_havingBy 126 = .ok (.iinc 3 1, 3) := by decide +kernel
theorem dX12_havingBy_129 : decode cX12_havingBy 129 = .ok (.iinc 4 (-1), 3) := by decide +kernel
theorem dX12_havingBy_132 : decode cX12_havingBy 132 = .ok (.goto (-76), 3) := by decide +kernel
theorem dX12_havingBy_135 : decode cX12_havingBy 135 = .ok (.iload_n 3, 1) := by decide +kernel
theorem dX12_havingBy_136 : decode cX12_havingBy 136 = .ok (.ireturn, 1) := by decide +kernel
theorem dX12_feeds_0 : decode cX12_feeds 0 = .ok (.iconst (-1), 1) := by decide +kernel
theorem dX12_feeds_1 : decode cX12_feeds 1 = .ok (.istore_n 1, 1) := by decide +kernel
theorem dX12_feeds_2 : decode cX12_feeds 2 = .ok (.aload_n 0, 1) := by decide +kernel
theorem dX12_feeds_3 : decode cX12_feeds 3 = .ok (.getfield 13, 3) := by decide +kernel
theorem dX12_feeds_6 : decode cX12_feeds 6 = .ok (.iconst 1, 1) := by decide +kernel
theorem dX12_feeds_7 : decode cX12_feeds 7 = .ok (.iaload, 1) := by decide +kernel
theorem dX12_feeds_8 : decode cX12_feeds 8 = .ok (.invokestatic 166, 3) := by decide +kernel
theorem dX12_feeds_11 : decode cX12_feeds 11 = .ok (.istore_n 2, 1) := by decide +kernel
theorem dX12_feeds_12 : decode cX12_feeds 12 = .ok (.iconst 0, 1) := by decide +kernel
theorem dX12_feeds_13 : decode cX12_feeds 13 = .ok (.istore_n 3, 1) := by decide +kernel
theorem dX12_feeds_14 : decode cX12_feeds 14 = .ok (.iload_n 3, 1) := by decide +kernel
theorem dX12_feeds_15 : decode cX12_feeds 15 = .ok (.iload_n 2, 1) := by decide +kernel
theorem dX12_feeds_16 : decode cX12_feeds 16 = .ok (.if_icmp .ge 65, 3) := by decide +kernel
theorem dX12_feeds_19 : decode cX12_feeds 19 = .ok (.iload_n 1, 1) := by decide +kernel
theorem dX12_feeds_20 : decode cX12_feeds 20 = .ok (.aload_n 0, 1) := by decide +kernel
theorem dX12_feeds_21 : decode cX12_feeds 21 = .ok (.getfield 13, 3) := by decide +kernel
theorem dX12_feeds_24 : decode cX12_feeds 24 = .ok (.iconst 1, 1) := by decide +kernel
theorem dX12_feeds_25 : decode cX12_feeds 25 = .ok (.iaload, 1) := by decide +kernel
theorem dX12_feeds_26 : decode cX12_feeds 26 = .ok (.if_icmp .ge 55, 3) := by decide +kernel
theorem dX12_feeds_29 : decode cX12_feeds 29 = .ok (.aload_n 0, 1) := by decide +kernel
theorem dX12_feeds_30 : decode cX12_feeds 30 = .ok (.iload_n 3, 1) := by decide +kernel
theorem dX12_feeds_31 : decode cX12_feeds 31 = .ok (.invokevirtual 169, 3) := by decide +kernel
theorem dX12_feeds_34 : decode cX12_feeds 34 = .ok (.istore 4, 2) := by decide +kernel
theorem dX12_feeds_36 : decode cX12_feeds 36 = .ok (.iload 4, 2) := by decide +kernel
theorem dX12_feeds_38 : decode cX12_feeds 38 = .ok (.iload_n 1, 1) := by decide +kernel
theorem dX12_feeds_39 : decode cX12_feeds 39 = .ok (.if_icmp .le 36, 3) := by decide +kernel
theorem dX12_feeds_42 : decode cX12_feeds 42 = .ok (.iload 4, 2) := by decide +kernel
theorem dX12_feeds_44 : decode cX12_feeds 44 = .ok (.istore_n 1, 1) := by decide +kernel
theorem dX12_feeds_45 : decode cX12_feeds 45 = .ok (.iconst 0, 1) := by decide +kernel
theorem dX12_feeds_46 : decode cX12_feeds 46 = .ok (.istore 5, 2) := by decide +kernel
theorem dX12_feeds_48 : decode cX12_feeds 48 = .ok (.iload 5, 2) := by decide +kernel
theorem dX12_feeds_50 : decode cX12_feeds 50 = .ok (.bipush 6, 2) := by decide +kernel
theorem dX12_feeds_52 : decode cX12_feeds 52 = .ok (.if_icmp .ge 23, 3) := by decide +kernel
theorem dX12_feeds_55 : decode cX12_feeds 55 = .ok (.aload_n 0, 1) := by decide +kernel
theorem dX12_feeds_56 : decode cX12_feeds 56 = .ok (.getfield 53, 3) := by decide +kernel
theorem dX12_feeds_59 : decode cX12_feeds 59 = .ok (.iload 5, 2) := by decide +kernel
theorem dX12_feeds_61 : decode cX12_feeds 61 = .ok (.aload_n 0, 1) := by decide +kernel
theorem dX12_feeds_62 : decode cX12_feeds 62 = .ok (.getfield 50, 3) := by decide +kernel
theorem dX12_feeds_65 : decode cX12_feeds 65 = .ok (.iload 5, 2) := by decide +kernel
theorem dX12_feeds_67 : decode cX12_feeds 67 = .ok (.iaload, 1) := by decide +kernel
theorem dX12_feeds_68 : decode cX12_feeds 68 = .ok (.iastore, 1) := by decide +kernel
theorem dX12_feeds_69 : decode cX12_feeds 69 = .ok (.iinc 5 1, 3) := by decide +kernel
theorem dX12_feeds_72 : decode cX12_feeds 72 = .ok (.goto (-24), 3) := by decide +kernel
theorem dX12_feeds_75 : decode cX12_feeds 75 = .ok (.iinc 3 1, 3) := by decide +kernel
theorem dX12_feeds_78 : decode cX12_feeds 78 = .ok (.goto (-64), 3) := by decide +kernel
theorem dX12_feeds_81 : decode cX12_feeds 81 = .ok (.iload_n 1, 1) := by decide +kernel
theorem dX12_feeds_82 : decode cX12_feeds 82 = .ok (.ireturn, 1) := by decide +kernel
theorem dX12_now_0 : decode cX12_now 0 = .ok (.aload_n 0, 1) := by decide +kernel
theorem dX12_now_1 : decode cX12_now 1 = .ok (.iconst 0, 1) := by decide +kernel
theorem dX12_now_2 : decode cX12_now 2 = .ok (.putfield 65, 3) := by decide +kernel
theorem dX12_now_5 : decode cX12_now 5 = .ok (.iload_n 1, 1) := by decide +kernel
theorem dX12_now_6 : decode cX12_now 6 = .ok (.iconst 0, 1) := by decide +kernel
theorem dX12_now_7 : decode cX12_now 7 = .ok (.iconst 5, 1) := by decide +kernel
theorem dX12_now_8 : decode cX12_now 8 = .ok (.invokestatic 69, 3) := by decide +kernel
theorem dX12_now_11 : decode cX12_now 11 = .ok (.ifCond .ne 5, 3) := by decide +kernel
theorem dX12_now_14 : decode cX12_now 14 = .ok (.iconst (-1), 1) := by decide +kernel
theorem dX12_now_15 : decode cX12_now 15 = .ok (.ireturn, 1) := by decide +kernel
theorem dX12_now_16 : decode cX12_now 16 = .ok (.iload_n 1, 1) := by decide +kernel
theorem dX12_now_17 : decode cX12_now 17 = .ok (.iconst 2, 1) := by decide +kernel
theorem dX12_now_18 : decode cX12_now 18 = .ok (.if_icmp .ge 49, 3) := by decide +kernel
theorem dX12_now_21 : decode cX12_now 21 = .ok (.iconst 0, 1) := by decide +kernel
theorem dX12_now_22 : decode cX12_now 22 = .ok (.istore_n 2, 1) := by decide +kernel
theorem dX12_now_23 : decode cX12_now 23 = .ok (.iconst 0, 1) := by decide +kernel
theorem dX12_now_24 : decode cX12_now 24 = .ok (.istore_n 3, 1) := by decide +kernel
theorem dX12_now_25 : decode cX12_now 25 = .ok (.iload_n 3, 1) := by decide +kernel
theorem dX12_now_26 : decode cX12_now 26 = .ok (.aload_n 0, 1) := by decide +kernel
theorem dX12_now_27 : decode cX12_now 27 = .ok (.getfield 13, 3) := by decide +kernel
theorem dX12_now_30 : decode cX12_now 30 = .ok (.iconst 2, 1) := by decide +kernel
theorem dX12_now_31 : decode cX12_now 31 = .ok (.iaload, 1) := by decide +kernel
theorem dX12_now_32 : decode cX12_now 32 = .ok (.if_icmp .ge 20, 3) := by decide +kernel
theorem dX12_now_35 : decode cX12_now 35 = .ok (.iload_n 2, 1) := by decide +kernel
theorem dX12_now_36 : decode cX12_now 36 = .ok (.aload_n 0, 1) := by decide +kernel
theorem dX12_now_37 : decode cX12_now 37 = .ok (.getfield 28, 3) := by decide +kernel
theorem dX12_now_40 : decode cX12_now 40 = .ok (.iconst 1, 1) := by decide +kernel
theorem dX12_now_41 : decode cX12_now 41 = .ok (.iload_n 3, 1) := by decide +kernel
theorem dX12_now_42 : decode cX12_now 42 = .ok (.iadd, 1) := by decide +kernel
theorem dX12_now_43 : decode cX12_now 43 = .ok (.iaload, 1) := by decide +kernel
theorem dX12_now_44 : decode cX12_now 44 = .ok (.iadd, 1) := by decide +kernel
theorem dX12_now_45 : decode cX12_now 45 = .ok (.istore_n 2, 1) := by decide +kernel
theorem dX12_now_46 : decode cX12_now 46 = .ok (.iinc 3 1, 3) := by decide +kernel
theorem dX12_now_49 : decode cX12_now 49 = .ok (.goto (-24), 3) := by decide +kernel
theorem dX12_now_52 : decode cX12_now 52 = .ok (.iload_n 1, 1) := by decide +kernel
theorem dX12_now_53 : decode cX12_now 53 = .ok (.ifCond .ne 12, 3) := by decide +kernel
theorem dX12_now_56 : decode cX12_now 56 = .ok (.aload_n 0, 1) := by decide +kernel
theorem dX12_now_57 : decode cX12_now 57 = .ok (.getfield 28, 3) := by decide +kernel
theorem dX12_now_60 : decode cX12_now 60 = .ok (.iconst 0, 1) := by decide +kernel
theorem dX12_now_61 : decode cX12_now 61 = .ok (.iaload, 1) := by decide +kernel
theorem dX12_now_62 : decode cX12_now 62 = .ok (.goto 4, 3) := by decide +kernel
theorem dX12_now_65 : decode cX12_now 65 = .ok (.iload_n 2, 1) := by decide +kernel
theorem dX12_now_66 : decode cX12_now 66 = .ok (.ireturn, 1) := by decide +kernel
theorem dX12_now_67 : decode cX12_now 67 = .ok (.iload_n 1, 1) := by decide +kernel
theorem dX12_now_68 : decode cX12_now 68 = .ok (.iconst 2, 1) := by decide +kernel
theorem dX12_now_69 : decode cX12_now 69 = .ok (.if_icmp .ne 10, 3) := by decide +kernel
theorem dX12_now_72 : decode cX12_now 72 = .ok (.aload_n 0, 1) := by decide +kernel
theorem dX12_now_73 : decode cX12_now 73 = .ok (.invokevirtual 159, 3) := by decide +kernel
theorem dX12_now_76 : decode cX12_now 76 = .ok (.goto 31, 3) := by decide +kernel
theorem dX12_now_79 : decode cX12_now 79 = .ok (.iload_n 1, 1) := by decide +kernel
theorem dX12_now_80 : decode cX12_now 80 = .ok (.iconst 3, 1) := by decide +kernel
theorem dX12_now_81 : decode cX12_now 81 = .ok (.if_icmp .ne 10, 3) := by decide +kernel
theorem dX12_now_84 : decode cX12_now 84 = .ok (.aload_n 0, 1) := by decide +kernel
theorem dX12_now_85 : decode cX12_now 85 = .ok (.invokevirtual 172, 3) := by decide +kernel
theorem dX12_now_88 : decode cX12_now 88 = .ok (.goto 19, 3) := by decide +kernel
theorem dX12_now_91 : decode cX12_now 91 = .ok (.iload_n 1, 1) := by decide +kernel
theorem dX12_now_92 : decode cX12_now 92 = .ok (.iconst 4, 1) := by decide +kernel
theorem dX12_now_93 : decode cX12_now 93 = .ok (.if_icmp .ne 10, 3) := by decide +kernel
theorem dX12_now_96 : decode cX12_now 96 = .ok (.aload_n 0, 1) := by decide +kernel
theorem dX12_now_97 : decode cX12_now 97 = .ok (.invokevirtual 175, 3) := by decide +kernel
theorem dX12_now_100 : decode cX12_now 100 = .ok (.goto 7, 3) := by decide +kernel
theorem dX12_now_103 : decode cX12_now 103 = .ok (.aload_n 0, 1) := by decide +kernel
theorem dX12_now_104 : decode cX12_now 104 = .ok (.getfield 128, 3) := by decide +kernel
theorem dX12_now_107 : decode cX12_now 107 = .ok (.ireturn, 1) := by decide +kernel
theorem dX12_notes_0 : decode cX12_notes 0 = .ok (.aload_n 0, 1) := by decide +kernel
theorem dX12_notes_1 : decode cX12_notes 1 = .ok (.getfield 128, 3) := by decide +kernel
theorem dX12_notes_4 : decode cX12_notes 4 = .ok (.bipush 10, 2) := by decide +kernel
theorem dX12_notes_6 : decode cX12_notes 6 = .ok (.if_icmp .ne 39, 3) := by decide +kernel
theorem dX12_notes_9 : decode cX12_notes 9 = .ok (.iconst 0, 1) := by decide +kernel
theorem dX12_notes_10 : decode cX12_notes 10 = .ok (.istore_n 1, 1) := by decide +kernel
theorem dX12_notes_11 : decode cX12_notes 11 = .ok (.iload_n 1, 1) := by decide +kernel
theorem dX12_notes_12 : decode cX12_notes 12 = .ok (.sipush 225, 3) := by decide +kernel
theorem dX12_notes_15 : decode cX12_notes 15 = .ok (.if_icmp .ge 24, 3) := by decide +kernel
theorem dX12_notes_18 : decode cX12_notes 18 = .ok (.aload_n 0, 1) := by decide +kernel
theorem dX12_notes_19 : decode cX12_notes 19 = .ok (.getfield 38, 3) := by decide +kernel
theorem dX12_notes_22 : decode cX12_notes 22 = .ok (.iload_n 1, 1) := by decide +kernel
theorem dX12_notes_23 : decode cX12_notes 23 = .ok (.aload_n 0, 1) := by decide +kernel
theorem dX12_notes_24 : decode cX12_notes 24 = .ok (.getfield 38, 3) := by decide +kernel
theorem dX12_notes_27 : decode cX12_notes 27 = .ok (.iload_n 1, 1) := by decide +kernel
theorem dX12_notes_28 : decode cX12_notes 28 = .ok (.bipush 25, 2) := by decide +kernel
theorem dX12_notes_30 : decode cX12_notes 30 = .ok (.iadd, 1) := by decide +kernel
theorem dX12_notes_31 : decode cX12_notes 31 = .ok (.iaload, 1) := by decide +kernel
theorem dX12_notes_32 : decode cX12_notes 32 = .ok (.iastore, 1) := by decide +kernel
theorem dX12_notes_33 : decode cX12_notes 33 = .ok (.iinc 1 1, 3) := by decide +kernel
theorem dX12_notes_36 : decode cX12_notes 36 = .ok (.goto (-25), 3) := by decide +kernel
theorem dX12_notes_39 : decode cX12_notes 39 = .ok (.aload_n 0, 1) := by decide +kernel
theorem dX12_notes_40 : decode cX12_notes 40 = .ok (.bipush 9, 2) := by decide +kernel
theorem dX12_notes_42 : decode cX12_notes 42 = .ok (.putfield 128, 3) := by decide +kernel
theorem dX12_notes_45 : decode cX12_notes 45 = .ok (.iconst 0, 1) := by decide +kernel
theorem dX12_notes_46 : decode cX12_notes 46 = .ok (.istore_n 1, 1) := by decide +kernel
theorem dX12_notes_47 : decode cX12_notes 47 = .ok (.iload_n 1, 1) := by decide +kernel
theorem dX12_notes_48 : decode cX12_notes 48 = .ok (.bipush 25, 2) := by decide +kernel
theorem dX12_notes_50 : decode cX12_notes 50 = .ok (.if_icmp .ge 29, 3) := by decide +kernel
theorem dX12_notes_53 : decode cX12_notes 53 = .ok (.aload_n 0, 1) := by decide +kernel
theorem dX12_notes_54 : decode cX12_notes 54 = .ok (.getfield 38, 3) := by decide +kernel
theorem dX12_notes_57 : decode cX12_notes 57 = .ok (.bipush 25, 2) := by decide +kernel
theorem dX12_notes_59 : decode cX12_notes 59 = .ok (.aload_n 0, 1) := by decide +kernel
theorem dX12_notes_60 : decode cX12_notes 60 = .ok (.getfield 128, 3) := by decide +kernel
theorem dX12_notes_63 : decode cX12_notes 63 = .ok (.imul, 1) := by decide +kernel
theorem dX12_notes_64 : decode cX12_notes 64 = .ok (.iload_n 1, 1) := by decide +kernel
theorem dX12_notes_65 : decode cX12_notes 65 = .ok (.iadd, 1) := by decide +kernel
theorem dX12_notes_66 : decode cX12_notes 66 = .ok (.aload_n 0, 1) := by decide +kernel
theorem dX12_notes_67 : decode cX12_notes 67 = .ok (.getfield 28, 3) := by decide +kernel
theorem dX12_notes_70 : decode cX12_notes 70 = .ok (.iload_n 1, 1) := by decide +kernel
theorem dX12_notes_71 : decode cX12_notes 71 = .ok (.iaload, 1) := by decide +kernel
theorem dX12_notes_72 : decode cX12_notes 72 = .ok (.iastore, 1) := by decide +kernel
theorem dX12_notes_73 : decode cX12_notes 73 = .ok (.iinc 1 1, 3) := by decide +kernel
theorem dX12_notes_76 : decode cX12_notes 76 = .ok (.goto (-29), 3) := by decide +kernel
theorem dX12_notes_79 : decode cX12_notes 79 = .ok (.aload_n 0, 1) := by decide +kernel
theorem dX12_notes_80 : decode cX12_notes 80 = .ok (.dup, 1) := by decide +kernel
theorem dX12_notes_81 : decode cX12_notes 81 = .ok (.getfield 128, 3) := by decide +kernel
theorem dX12_notes_84 : decode cX12_notes 84 = .ok (.iconst 1, 1) := by decide +kernel
theorem dX12_notes_85 : decode cX12_notes 85 = .ok (.iadd, 1) := by decide +kernel
theorem dX12_notes_86 : decode cX12_notes 86 = .ok (.putfield 128, 3) := by decide +kernel
theorem dX12_notes_89 : decode cX12_notes 89 = .ok (.return_, 1) := by decide +kernel
theorem dX12_spins_0 : decode cX12_spins 0 = .ok (.aload_n 0, 1) := by decide +kernel
theorem dX12_spins_1 : decode cX12_spins 1 = .ok (.iconst 0, 1) := by decide +kernel
theorem dX12_spins_2 : decode cX12_spins 2 = .ok (.putfield 65, 3) := by decide +kernel
theorem dX12_spins_5 : decode cX12_spins 5 = .ok (.iload_n 1, 1) := by decide +kernel
theorem dX12_spins_6 : decode cX12_spins 6 = .ok (.iconst 1, 1) := by decide +kernel
theorem dX12_spins_7 : decode cX12_spins 7 = .ok (.aload_n 0, 1) := by decide +kernel
theorem dX12_spins_8 : decode cX12_spins 8 = .ok (.getfield 13, 3) := by decide +kernel
theorem dX12_spins_11 : decode cX12_spins 11 = .ok (.iconst 0, 1) := by decide +kernel
theorem dX12_spins_12 : decode cX12_spins 12 = .ok (.iaload, 1) := by decide +kernel
theorem dX12_spins_13 : decode cX12_spins 13 = .ok (.iconst 1, 1) := by decide +kernel
theorem dX12_spins_14 : decode cX12_spins 14 = .ok (.isub, 1) := by decide +kernel
theorem dX12_spins_15 : decode cX12_spins 15 = .ok (.invokestatic 69, 3) := by decide +kernel
theorem dX12_spins_18 : decode cX12_spins 18 = .ok (.ifCond .eq 12, 3) := by decide +kernel
theorem dX12_spins_21 : decode cX12_spins 21 = .ok (.iload_n 2, 1) := by decide +kernel
theorem dX12_spins_22 : decode cX12_spins 22 = .ok (.iconst 0, 1) := by decide +kernel
theorem dX12_spins_23 : decode cX12_spins 23 = .ok (.iconst 1, 1) := by decide +kernel
theorem dX12_spins_24 : decode cX12_spins 24 = .ok (.invokestatic 69, 3) := by decide +kernel
theorem dX12_spins_27 : decode cX12_spins 27 = .ok (.ifCond .ne 5, 3) := by decide +kernel
theorem dX12_spins_30 : decode cX12_spins 30 = .ok (.iconst (-1), 1) := by decide +kernel
theorem dX12_spins_31 : decode cX12_spins 31 = .ok (.ireturn, 1) := by decide +kernel
theorem dX12_spins_32 : decode cX12_spins 32 = .ok (.aload_n 0, 1) := by decide +kernel
theorem dX12_spins_33 : decode cX12_spins 33 = .ok (.invokevirtual 178, 3) := by decide +kernel
theorem dX12_spins_36 : decode cX12_spins 36 = .ok (.aload_n 0, 1) := by decide +kernel
theorem dX12_spins_37 : decode cX12_spins 37 = .ok (.getfield 13, 3) := by decide +kernel
theorem dX12_spins_40 : decode cX12_spins 40 = .ok (.iconst 0, 1) := by decide +kernel
theorem dX12_spins_41 : decode cX12_spins 41 = .ok (.iaload, 1) := by decide +kernel
theorem dX12_spins_42 : decode cX12_spins 42 = .ok (.istore_n 3, 1) := by decide +kernel
theorem dX12_spins_43 : decode cX12_spins 43 = .ok (.aload_n 0, 1) := by decide +kernel
theorem dX12_spins_44 : decode cX12_spins 44 = .ok (.getfield 28, 3) := by decide +kernel
theorem dX12_spins_47 : decode cX12_spins 47 = .ok (.iconst 0, 1) := by decide +kernel
theorem dX12_spins_48 : decode cX12_spins 48 = .ok (.aload_n 0, 1) := by decide +kernel
theorem dX12_spins_49 : decode cX12_spins 49 = .ok (.getfield 28, 3) := by decide +kernel
theorem dX12_spins_52 : decode cX12_spins 52 = .ok (.iconst 0, 1) := by decide +kernel
theorem dX12_spins_53 : decode cX12_spins 53 = .ok (.iaload, 1) := by decide +kernel
theorem dX12_spins_54 : decode cX12_spins 54 = .ok (.iload_n 2, 1) := by decide +kernel
theorem dX12_spins_55 : decode cX12_spins 55 = .ok (.ifCond .ne 7, 3) := by decide +kernel
theorem dX12_spins_58 : decode cX12_spins 58 = .ok (.iload_n 1, 1) := by decide +kernel
theorem dX12_spins_59 : decode cX12_spins 59 = .ok (.goto 6, 3) := by decide +kernel
theorem dX12_spins_62 : decode cX12_spins 62 = .ok (.iload_n 3, 1) := by decide +kernel
theorem dX12_spins_63 : decode cX12_spins 63 = .ok (.iload_n 1, 1) := by decide +kernel
theorem dX12_spins_64 : decode cX12_spins 64 = .ok (.isub, 1) := by decide +kernel
theorem dX12_spins_65 : decode cX12_spins 65 = .ok (.iadd, 1) := by decide +kernel
theorem dX12_spins_66 : decode cX12_spins 66 = .ok (.iload_n 3, 1) := by decide +kernel
theorem dX12_spins_67 : decode cX12_spins 67 = .ok (.irem, 1) := by decide +kernel
theorem dX12_spins_68 : decode cX12_spins 68 = .ok (.iastore, 1) := by decide +kernel
theorem dX12_spins_69 : decode cX12_spins 69 = .ok (.iconst 0, 1) := by decide +kernel
theorem dX12_spins_70 : decode cX12_spins 70 = .ok (.istore 4, 2) := by decide +kernel
theorem dX12_spins_72 : decode cX12_spins 72 = .ok (.iconst 0, 1) := by decide +kernel
theorem dX12_spins_73 : decode cX12_spins 73 = .ok (.istore 5, 2) := by decide +kernel
theorem dX12_spins_75 : decode cX12_spins 75 = .ok (.iload 5, 2) := by decide +kernel
theorem dX12_spins_77 : decode cX12_spins 77 = .ok (.aload_n 0, 1) := by decide +kernel
theorem dX12_spins_78 : decode cX12_spins 78 = .ok (.getfield 13, 3) := by decide +kernel
theorem dX12_spins_81 : decode cX12_spins 81 = .ok (.iconst 2, 1) := by decide +kernel
theorem dX12_spins_82 : decode cX12_spins 82 = .ok (.iaload, 1) := by decide +kernel
theorem dX12_spins_83 : decode cX12_spins 83 = .ok (.if_icmp .ge 65, 3) := by decide +kernel
theorem dX12_spins_86 : decode cX12_spins 86 = .ok (.iload_n 1, 1) := by decide +kernel
theorem dX12_spins_87 : decode cX12_spins 87 = .ok (.iconst 2, 1) := by decide +kernel
theorem dX12_spins_88 : decode cX12_spins 88 = .ok (.if_icmp .le 60, 3) := by decide +kernel
theorem dX12_spins_91 : decode cX12_spins 91 = .ok (.aload_n 0, 1) := by decide +kernel
theorem dX12_spins_92 : decode cX12_spins 92 = .ok (.getfield 22, 3) := by decide +kernel
theorem dX12_spins_95 : decode cX12_spins 95 = .ok (.iload 5, 2) := by decide +kernel
theorem dX12_spins_97 : decode cX12_spins 97 = .ok (.iaload, 1) := by decide +kernel
theorem dX12_spins_98 : decode cX12_spins 98 = .ok (.iconst 1, 1) := by decide +kernel
theorem dX12_spins_99 : decode cX12_spins 99 = .ok (.if_icmp .ne 19, 3) := by decide +kernel
theorem dX12_spins_102 : decode cX12_spins 102 = .ok (.aload_n 0, 1) := by decide +kernel
theorem dX12_spins_103 : decode cX12_spins 103 = .ok (.getfield 28, 3) := by decide +kernel
theorem dX12_spins_106 : decode cX12_spins 106 = .ok (.iconst 1, 1) := by decide +kernel
theorem dX12_spins_107 : decode cX12_spins 107 = .ok (.iload 5, 2) := by decide +kernel
theorem dX12_spins_109 : decode cX12_spins 109 = .ok (.iadd, 1) := by decide +kernel
theorem dX12_spins_110 : decode cX12_spins 110 = .ok (.iaload, 1) := by decide +kernel
theorem dX12_spins_111 : decode cX12_spins 111 = .ok (.ifCond .le 7, 3) := by decide +kernel
theorem dX12_spins_114 : decode cX12_spins 114 = .ok (.iconst 1, 1) := by decide +kernel
theorem dX12_spins_115 : decode cX12_spins 115 = .ok (.goto 4, 3) := by decide +kernel
theorem dX12_spins_118 : decode cX12_spins 118 = .ok (.iconst 0, 1) := by decide +kernel
theorem dX12_spins_119 : decode cX12_spins 119 = .ok (.istore 6, 2) := by decide +kernel
theorem dX12_spins_121 : decode cX12_spins 121 = .ok (.aload_n 0, 1) := by decide +kernel
theorem dX12_spins_122 : decode cX12_spins 122 = .ok (.getfield 28, 3) := by decide +kernel
theorem dX12_spins_125 : decode cX12_spins 125 = .ok (.iconst 1, 1) := by decide +kernel
theorem dX12_spins_126 : decode cX12_spins 126 = .ok (.iload 5, 2) := by decide +kernel
theorem dX12_spins_128 : decode cX12_spins 128 = .ok (.iadd, 1) := by decide +kernel
theorem dX12_spins_129 : decode cX12_spins 129 = .ok (.dup2, 1) := by decide +kernel
theorem dX12_spins_130 : decode cX12_spins 130 = .ok (.iaload, 1) := by decide +kernel
theorem dX12_spins_131 : decode cX12_spins 131 = .ok (.iload 6, 2) := by decide +kernel
theorem dX12_spins_133 : decode cX12_spins 133 = .ok (.isub, 1) := by decide +kernel
theorem dX12_spins_134 : decode cX12_spins 134 = .ok (.iastore, 1) := by decide +kernel
theorem dX12_spins_135 : decode cX12_spins 135 = .ok (.iload 4, 2) := by decide +kernel
theorem dX12_spins_137 : decode cX12_spins 137 = .ok (.iload 6, 2) := by decide +kernel
theorem dX12_spins_139 : decode cX12_spins 139 = .ok (.iadd, 1) := by decide +kernel
theorem dX12_spins_140 : decode cX12_spins 140 = .ok (.istore 4, 2) := by decide +kernel
theorem dX12_spins_142 : decode cX12_spins 142 = .ok (.iinc 5 1, 3) := by decide +kernel
theorem dX12_spins_145 : decode cX12_spins 145 = .ok (.goto (-70), 3) := by decide +kernel
theorem dX12_spins_148 : decode cX12_spins 148 = .ok (.iload 4, 2) := by decide +kernel
theorem dX12_spins_150 : decode cX12_spins 150 = .ok (.ireturn, 1) := by decide +kernel
theorem dX12_takes_0 : decode cX12_takes 0 = .ok (.aload_n 0, 1) := by decide +kernel
theorem dX12_takes_1 : decode cX12_takes 1 = .ok (.iconst 0, 1) := by decide +kernel
theorem dX12_takes_2 : decode cX12_takes 2 = .ok (.putfield 65, 3) := by decide +kernel
theorem dX12_takes_5 : decode cX12_takes 5 = .ok (.aload_n 0, 1) := by decide +kernel
theorem dX12_takes_6 : decode cX12_takes 6 = .ok (.iload_n 1, 1) := by decide +kernel
theorem dX12_takes_7 : decode cX12_takes 7 = .ok (.invokevirtual 134, 3) := by decide +kernel
theorem dX12_takes_10 : decode cX12_takes 10 = .ok (.ifCond .eq 11, 3) := by decide +kernel
theorem dX12_takes_13 : decode cX12_takes 13 = .ok (.aload_n 0, 1) := by decide +kernel
theorem dX12_takes_14 : decode cX12_takes 14 = .ok (.iload_n 2, 1) := by decide +kernel
theorem dX12_takes_15 : decode cX12_takes 15 = .ok (.invokevirtual 143, 3) := by decide +kernel
theorem dX12_takes_18 : decode cX12_takes 18 = .ok (.ifCond .ne 5, 3) := by decide +kernel
theorem dX12_takes_21 : decode cX12_takes 21 = .ok (.iconst (-1), 1) := by decide +kernel
theorem dX12_takes_22 : decode cX12_takes 22 = .ok (.ireturn, 1) := by decide +kernel
theorem dX12_takes_23 : decode cX12_takes 23 = .ok (.aload_n 0, 1) := by decide +kernel
theorem dX12_takes_24 : decode cX12_takes 24 = .ok (.iload_n 1, 1) := by decide +kernel
theorem dX12_takes_25 : decode cX12_takes 25 = .ok (.iload_n 2, 1) := by decide +kernel
theorem dX12_takes_26 : decode cX12_takes 26 = .ok (.aload_n 0, 1) := by decide +kernel
theorem dX12_takes_27 : decode cX12_takes 27 = .ok (.getfield 28, 3) := by decide +kernel
theorem dX12_takes_30 : decode cX12_takes 30 = .ok (.iconst 0, 1) := by decide +kernel
theorem dX12_takes_31 : decode cX12_takes 31 = .ok (.iaload, 1) := by decide +kernel
theorem dX12_takes_32 : decode cX12_takes 32 = .ok (.invokevirtual 131, 3) := by decide +kernel
theorem dX12_takes_35 : decode cX12_takes 35 = .ok (.ifCond .eq 14, 3) := by decide +kernel
theorem dX12_takes_38 : decode cX12_takes 38 = .ok (.aload_n 0, 1) := by decide +kernel
theorem dX12_takes_39 : decode cX12_takes 39 = .ok (.getfield 28, 3) := by decide +kernel
theorem dX12_takes_42 : decode cX12_takes 42 = .ok (.iconst 1, 1) := by decide +kernel
theorem dX12_takes_43 : decode cX12_takes 43 = .ok (.iload_n 2, 1) := by decide +kernel
theorem dX12_takes_44 : decode cX12_takes 44 = .ok (.iadd, 1) := by decide +kernel
theorem dX12_takes_45 : decode cX12_takes 45 = .ok (.iaload, 1) := by decide +kernel
theorem dX12_takes_46 : decode cX12_takes 46 = .ok (.ifCond .ne 6, 3) := by decide +kernel
theorem dX12_takes_49 : decode cX12_takes 49 = .ok (.bipush (-2), 2) := by decide +kernel
theorem dX12_takes_51 : decode cX12_takes 51 = .ok (.ireturn, 1) := by decide +kernel
theorem dX12_takes_52 : decode cX12_takes 52 = .ok (.aload_n 0, 1) := by decide +kernel
theorem dX12_takes_53 : decode cX12_takes 53 = .ok (.invokevirtual 178, 3) := by decide +kernel
theorem dX12_takes_56 : decode cX12_takes 56 = .ok (.aload_n 0, 1) := by decide +kernel
theorem dX12_takes_57 : decode cX12_takes 57 = .ok (.getfield 28, 3) := by decide +kernel
theorem dX12_takes_60 : decode cX12_takes 60 = .ok (.iconst 1, 1) := by decide +kernel
theorem dX12_takes_61 : decode cX12_takes 61 = .ok (.iload_n 2, 1) := by decide +kernel
theorem dX12_takes_62 : decode cX12_takes 62 = .ok (.iadd, 1) := by decide +kernel
theorem dX12_takes_63 : decode cX12_takes 63 = .ok (.dup2, 1) := by decide +kernel
theorem dX12_takes_64 : decode cX12_takes 64 = .ok (.iaload, 1) := by decide +kernel
theorem dX12_takes_65 : decode cX12_takes 65 = .ok (.iconst 1, 1) := by decide +kernel
theorem dX12_takes_66 : decode cX12_takes 66 = .ok (.isub, 1) := by decide +kernel
theorem dX12_takes_67 : decode cX12_takes 67 = .ok (.iastore, 1) := by decide +kernel
theorem dX12_takes_68 : decode cX12_takes 68 = .ok (.aload_n 0, 1) := by decide +kernel
theorem dX12_takes_69 : decode cX12_takes 69 = .ok (.getfield 28, 3) := by decide +kernel
theorem dX12_takes_72 : decode cX12_takes 72 = .ok (.bipush 19, 2) := by decide +kernel
theorem dX12_takes_74 : decode cX12_takes 74 = .ok (.iload_n 1, 1) := by decide +kernel
theorem dX12_takes_75 : decode cX12_takes 75 = .ok (.iadd, 1) := by decide +kernel
theorem dX12_takes_76 : decode cX12_takes 76 = .ok (.dup2, 1) := by decide +kernel
theorem dX12_takes_77 : decode cX12_takes 77 = .ok (.iaload, 1) := by decide +kernel
theorem dX12_takes_78 : decode cX12_takes 78 = .ok (.iconst 1, 1) := by decide +kernel
theorem dX12_takes_79 : decode cX12_takes 79 = .ok (.iload_n 2, 1) := by decide +kernel
theorem dX12_takes_80 : decode cX12_takes 80 = .ok (.ishl, 1) := by decide +kernel
theorem dX12_takes_81 : decode cX12_takes 81 = .ok (.ior, 1) := by decide +kernel
theorem dX12_takes_82 : decode cX12_takes 82 = .ok (.iastore, 1) := by decide +kernel
theorem dX12_takes_83 : decode cX12_takes 83 = .ok (.aload_n 0, 1) := by decide +kernel
theorem dX12_takes_84 : decode cX12_takes 84 = .ok (.getfield 28, 3) := by decide +kernel
theorem dX12_takes_87 : decode cX12_takes 87 = .ok (.iconst 1, 1) := by decide +kernel
theorem dX12_takes_88 : decode cX12_takes 88 = .ok (.iload_n 2, 1) := by decide +kernel
theorem dX12_takes_89 : decode cX12_takes 89 = .ok (.iadd, 1) := by decide +kernel
theorem dX12_takes_90 : decode cX12_takes 90 = .ok (.iaload, 1) := by decide +kernel
theorem dX12_takes_91 : decode cX12_takes 91 = .ok (.ireturn, 1) := by decide +kernel
theorem dX12_isEmpty_0 : decode cX12_isEmpty 0 = .ok (.iconst 1, 1) := by decide +kernel
theorem dX12_isEmpty_1 : decode cX12_isEmpty 1 = .ok (.istore_n 2, 1) := by decide +kernel
theorem dX12_isEmpty_2 : decode cX12_isEmpty 2 = .ok (.iconst 0, 1) := by decide +kernel
theorem dX12_isEmpty_3 : decode cX12_isEmpty 3 = .ok (.istore_n 3, 1) := by decide +kernel
theorem dX12_isEmpty_4 : decode cX12_isEmpty 4 = .ok (.iload_n 3, 1) := by decide +kernel
theorem dX12_isEmpty_5 : decode cX12_isEmpty 5 = .ok (.aload_n 0, 1) := by decide +kernel
theorem dX12_isEmpty_6 : decode cX12_isEmpty 6 = .ok (.getfield 13, 3) := by decide +kernel
theorem dX12_isEmpty_9 : decode cX12_isEmpty 9 = .ok (.iconst 2, 1) := by decide +kernel
theorem dX12_isEmpty_10 : decode cX12_isEmpty 10 = .ok (.iaload, 1) := by decide +kernel
theorem dX12_isEmpty_11 : decode cX12_isEmpty 11 = .ok (.if_icmp .ge 32, 3) := by decide +kernel
theorem dX12_isEmpty_14 : decode cX12_isEmpty 14 = .ok (.iload_n 2, 1) := by decide +kernel
theorem dX12_isEmpty_15 : decode cX12_isEmpty 15 = .ok (.ifCond .eq 20, 3) := by decide +kernel
theorem dX12_isEmpty_18 : decode cX12_isEmpty 18 = .ok (.aload_n 0, 1) := by decide +kernel
theorem dX12_isEmpty_19 : decode cX12_isEmpty 19 = .ok (.getfield 28, 3) := by decide +kernel
theorem dX12_isEmpty_22 : decode cX12_isEmpty 22 = .ok (.bipush 7, 2) := by decide +kernel
theorem dX12_isEmpty_24 : decode cX12_isEmpty 24 = .ok (.iload_n 3, 1) := by decide +kernel
theorem dX12_isEmpty_25 : decode cX12_isEmpty 25 = .ok (.iadd, 1) := by decide +kernel
theorem dX12_isEmpty_26 : decode cX12_isEmpty 26 = .ok (.iaload, 1) := by decide +kernel
theorem dX12_isEmpty_27 : decode cX12_isEmpty 27 = .ok (.iload_n 1, 1) := by decide +kernel
theorem dX12_isEmpty_28 : decode cX12_isEmpty 28 = .ok (.if_icmp .eq 7, 3) := by decide +kernel
theorem dX12_isEmpty_31 : decode cX12_isEmpty 31 = .ok (.iconst 1, 1) := by decide +kernel
theorem dX12_isEmpty_32 : decode cX12_isEmpty 32 = .ok (.goto 4, 3) := by decide +kernel
theorem dX12_isEmpty_35 : decode cX12_isEmpty 35 = .ok (.iconst 0, 1) := by decide +kernel
theorem dX12_isEmpty_36 : decode cX12_isEmpty 36 = .ok (.istore_n 2, 1) := by decide +kernel
theorem dX12_isEmpty_37 : decode cX12_isEmpty 37 = .ok (.iinc 3 1, 3) := by decide +kernel
theorem dX12_isEmpty_40 : decode cX12_isEmpty 40 = .ok (.goto (-36), 3) := by decide +kernel
theorem dX12_isEmpty_43 : decode cX12_isEmpty 43 = .ok (.iload_n 2, 1) := by decide +kernel
theorem dX12_isEmpty_44 : decode cX12_isEmpty 44 = .ok (.ireturn, 1) := by decide +kernel
theorem dX12_moves_0 : decode cX12_moves 0 = .ok (.aload_n 0, 1) := by decide +kernel
theorem dX12_moves_1 : decode cX12_moves 1 = .ok (.iconst 0, 1) := by decide +kernel
theorem dX12_moves_2 : decode cX12_moves 2 = .ok (.putfield 65, 3) := by decide +kernel
theorem dX12_moves_5 : decode cX12_moves 5 = .ok (.aload_n 0, 1) := by decide +kernel
theorem dX12_moves_6 : decode cX12_moves 6 = .ok (.iload_n 1, 1) := by decide +kernel
theorem dX12_moves_7 : decode cX12_moves 7 = .ok (.invokevirtual 143, 3) := by decide +kernel
theorem dX12_moves_10 : decode cX12_moves 10 = .ok (.ifCond .eq 11, 3) := by decide +kernel
theorem dX12_moves_13 : decode cX12_moves 13 = .ok (.aload_n 0, 1) := by decide +kernel
theorem dX12_moves_14 : decode cX12_moves 14 = .ok (.iload_n 2, 1) := by decide +kernel
theorem dX12_moves_15 : decode cX12_moves 15 = .ok (.invokevirtual 181, 3) := by decide +kernel
theorem dX12_moves_18 : decode cX12_moves 18 = .ok (.ifCond .ne 5, 3) := by decide +kernel
theorem dX12_moves_21 : decode cX12_moves 21 = .ok (.iconst (-1), 1) := by decide +kernel
theorem dX12_moves_22 : decode cX12_moves 22 = .ok (.ireturn, 1) := by decide +kernel
theorem dX12_moves_23 : decode cX12_moves 23 = .ok (.aload_n 0, 1) := by decide +kernel
theorem dX12_moves_24 : decode cX12_moves 24 = .ok (.iload_n 2, 1) := by decide +kernel
theorem dX12_moves_25 : decode cX12_moves 25 = .ok (.invokevirtual 184, 3) := by decide +kernel
theorem dX12_moves_28 : decode cX12_moves 28 = .ok (.ifCond .ne 6, 3) := by decide +kernel
theorem dX12_moves_31 : decode cX12_moves 31 = .ok (.bipush (-2), 2) := by decide +kernel
theorem dX12_moves_33 : decode cX12_moves 33 = .ok (.ireturn, 1) := by decide +kernel
theorem dX12_moves_34 : decode cX12_moves 34 = .ok (.aload_n 0, 1) := by decide +kernel
theorem dX12_moves_35 : decode cX12_moves 35 = .ok (.invokevirtual 178, 3) := by decide +kernel
theorem dX12_moves_38 : decode cX12_moves 38 = .ok (.aload_n 0, 1) := by decide +kernel
theorem dX12_moves_39 : decode cX12_moves 39 = .ok (.getfield 28, 3) := by decide +kernel
theorem dX12_moves_42 : decode cX12_moves 42 = .ok (.bipush 7, 2) := by decide +kernel
theorem dX12_moves_44 : decode cX12_moves 44 = .ok (.iload_n 1, 1) := by decide +kernel
theorem dX12_moves_45 : decode cX12_moves 45 = .ok (.iadd, 1) := by decide +kernel
theorem dX12_moves_46 : decode cX12_moves 46 = .ok (.iaload, 1) := by decide +kernel
theorem dX12_moves_47 : decode cX12_moves 47 = .ok (.istore_n 3, 1) := by decide +kernel
theorem dX12_moves_48 : decode cX12_moves 48 = .ok (.aload_n 0, 1) := by decide +kernel
theorem dX12_moves_49 : decode cX12_moves 49 = .ok (.getfield 28, 3) := by decide +kernel
theorem dX12_moves_52 : decode cX12_moves 52 = .ok (.bipush 7, 2) := by decide +kernel
theorem dX12_moves_54 : decode cX12_moves 54 = .ok (.iload_n 1, 1) := by decide +kernel
theorem dX12_moves_55 : decode cX12_moves 55 = .ok (.iadd, 1) := by decide +kernel
theorem dX12_moves_56 : decode cX12_moves 56 = .ok (.iload_n 2, 1) := by decide +kernel
theorem dX12_moves_57 : decode cX12_moves 57 = .ok (.iastore, 1) := by decide +kernel
theorem dX12_moves_58 : decode cX12_moves 58 = .ok (.iload_n 3, 1) := by decide +kernel
theorem dX12_moves_59 : decode cX12_moves 59 = .ok (.ireturn, 1) := by decide +kernel
theorem dX12_changes_0 : decode cX12_changes 0 = .ok (.aload_n 0, 1) := by decide +kernel
theorem dX12_changes_1 : decode cX12_changes 1 = .ok (.iconst 0, 1) := by decide +kernel
theorem dX12_changes_2 : decode cX12_changes 2 = .ok (.putfield 65, 3) := by decide +kernel
theorem dX12_changes_5 : decode cX12_changes 5 = .ok (.aload_n 0, 1) := by decide +kernel
theorem dX12_changes_6 : decode cX12_changes 6 = .ok (.iload_n 1, 1) := by decide +kernel
theorem dX12_changes_7 : decode cX12_changes 7 = .ok (.invokevirtual 134, 3) := by decide +kernel
theorem dX12_changes_10 : decode cX12_changes 10 = .ok (.ifCond .eq 16, 3) := by decide +kernel
theorem dX12_changes_13 : decode cX12_changes 13 = .ok (.aload_n 0, 1) := by decide +kernel
theorem dX12_changes_14 : decode cX12_changes 14 = .ok (.iload_n 2, 1) := by decide +kernel
theorem dX12_changes_15 : decode cX12_changes 15 = .ok (.invokevirtual 134, 3) := by decide +kernel
theorem dX12_changes_18 : decode cX12_changes 18 = .ok (.ifCond .eq 8, 3) := by decide +kernel
theorem dX12_changes_21 : decode cX12_changes 21 = .ok (.iload_n 1, 1) := by decide +kernel
theorem dX12_changes_22 : decode cX12_changes 22 = .ok (.iload_n 2, 1) := by decide +kernel
theorem dX12_changes_23 : decode cX12_changes 23 = .ok (.if_icmp .ne 5, 3) := by decide +kernel
theorem dX12_changes_26 : decode cX12_changes 26 = .ok (.iconst (-1), 1) := by decide +kernel
theorem dX12_changes_27 : decode cX12_changes 27 = .ok (.ireturn, 1) := by decide +kernel
theorem dX12_changes_28 : decode cX12_changes 28 = .ok (.aload_n 0, 1) := by decide +kernel
theorem dX12_changes_29 : decode cX12_changes 29 = .ok (.invokevirtual 178, 3) := by decide +kernel
theorem dX12_changes_32 : decode cX12_changes 32 = .ok (.aload_n 0, 1) := by decide +kernel
theorem dX12_changes_33 : decode cX12_changes 33 = .ok (.iload_n 1, 1) := by decide +kernel
theorem dX12_changes_34 : decode cX12_changes 34 = .ok (.iload_n 2, 1) := by decide +kernel
theorem dX12_changes_35 : decode cX12_changes 35 = .ok (.invokevirtual 162, 3) := by decide +kernel
theorem dX12_changes_38 : decode cX12_changes 38 = .ok (.aload_n 0, 1) := by decide +kernel
theorem dX12_changes_39 : decode cX12_changes 39 = .ok (.getfield 28, 3) := by decide +kernel
theorem dX12_changes_42 : decode cX12_changes 42 = .ok (.bipush 13, 2) := by decide +kernel
theorem dX12_changes_44 : decode cX12_changes 44 = .ok (.iload_n 1, 1) := by decide +kernel
theorem dX12_changes_45 : decode cX12_changes 45 = .ok (.iadd, 1) := by decide +kernel
theorem dX12_changes_46 : decode cX12_changes 46 = .ok (.iaload, 1) := by decide +kernel
theorem dX12_changes_47 : decode cX12_changes 47 = .ok (.ireturn, 1) := by decide +kernel
theorem dX12_undo_0 : decode cX12_undo 0 = .ok (.aload_n 0, 1) := by decide +kernel
theorem dX12_undo_1 : decode cX12_undo 1 = .ok (.iconst 0, 1) := by decide +kernel
theorem dX12_undo_2 : decode cX12_undo 2 = .ok (.putfield 65, 3) := by decide +kernel
theorem dX12_undo_5 : decode cX12_undo 5 = .ok (.aload_n 0, 1) := by decide +kernel
theorem dX12_undo_6 : decode cX12_undo 6 = .ok (.getfield 128, 3) := by decide +kernel
theorem dX12_undo_9 : decode cX12_undo 9 = .ok (.ifCond .ne 6, 3) := by decide +kernel
theorem dX12_undo_12 : decode cX12_undo 12 = .ok (.bipush (-2), 2) := by decide +kernel
theorem dX12_undo_14 : decode cX12_undo 14 = .ok (.ireturn, 1) := by decide +kernel
theorem dX12_undo_15 : decode cX12_undo 15 = .ok (.aload_n 0, 1) := by decide +kernel
theorem dX12_undo_16 : decode cX12_undo 16 = .ok (.dup, 1) := by decide +kernel
theorem dX12_undo_17 : decode cX12_undo 17 = .ok (.getfield 128, 3) := by decide +kernel
theorem dX12_undo_20 : decode cX12_undo 20 = .ok (.iconst 1, 1) := by decide +kernel
theorem dX12_undo_21 : decode cX12_undo 21 = .ok (.isub, 1) := by decide +kernel
theorem dX12_undo_22 : decode cX12_undo 22 = .ok (.putfield 128, 3) := by decide +kernel
theorem dX12_undo_25 : decode cX12_undo 25 = .ok (.iconst 0, 1) := by decide +kernel
theorem dX12_undo_26 : decode cX12_undo 26 = .ok (.istore_n 1, 1) := by decide +kernel
theorem dX12_undo_27 : decode cX12_undo 27 = .ok (.iload_n 1, 1) := by decide +kernel
theorem dX12_undo_28 : decode cX12_undo 28 = .ok (.bipush 25, 2) := by decide +kernel
theorem dX12_undo_30 : decode cX12_undo 30 = .ok (.if_icmp .ge 29, 3) := by decide +kernel
theorem dX12_undo_33 : decode cX12_undo 33 = .ok (.aload_n 0, 1) := by decide +kernel
theorem dX12_undo_34 : decode cX12_undo 34 = .ok (.getfield 28, 3) := by decide +kernel
theorem dX12_undo_37 : decode cX12_undo 37 = .ok (.iload_n 1, 1) := by decide +kernel
theorem dX12_undo_38 : decode cX12_undo 38 = .ok (.aload_n 0, 1) := by decide +kernel
theorem dX12_undo_39 : decode cX12_undo 39 = .ok (.getfield 38, 3) := by decide +kernel
theorem dX12_undo_42 : decode cX12_undo 42 = .ok (.bipush 25, 2) := by decide +kernel
theorem dX12_undo_44 : decode cX12_undo 44 = .ok (.aload_n 0, 1) := by decide +kernel
theorem dX12_undo_45 : decode cX12_undo 45 = .ok (.getfield 128, 3) := by decide +kernel
theorem dX12_undo_48 : decode cX12_undo 48 = .ok (.imul, 1) := by decide +kernel
theorem dX12_undo_49 : decode cX12_undo 49 = .ok (.iload_n 1, 1) := by decide +kernel
theorem dX12_undo_50 : decode cX12_undo 50 = .ok (.iadd, 1) := by decide +kernel
theorem dX12_undo_51 : decode cX12_undo 51 = .ok (.iaload, 1) := by decide +kernel
theorem dX12_undo_52 : decode cX12_undo 52 = .ok (.iastore, 1) := by decide +kernel
theorem dX12_undo_53 : decode cX12_undo 53 = .ok (.iinc 1 1, 3) := by decide +kernel
theorem dX12_undo_56 : decode cX12_undo 56 = .ok (.goto (-29), 3) := by decide +kernel
theorem dX12_undo_59 : decode cX12_undo 59 = .ok (.aload_n 0, 1) := by decide +kernel
theorem dX12_undo_60 : decode cX12_undo 60 = .ok (.getfield 128, 3) := by decide +kernel
theorem dX12_undo_63 : decode cX12_undo 63 = .ok (.ireturn, 1) := by decide +kernel
theorem dX12_steps_0 : decode cX12_steps 0 = .ok (.aload_n 0, 1) := by decide +kernel
theorem dX12_steps_1 : decode cX12_steps 1 = .ok (.iconst 0, 1) := by decide +kernel
theorem dX12_steps_2 : decode cX12_steps 2 = .ok (.putfield 65, 3) := by decide +kernel
theorem dX12_steps_5 : decode cX12_steps 5 = .ok (.aload_n 0, 1) := by decide +kernel
theorem dX12_steps_6 : decode cX12_steps 6 = .ok (.iload_n 1, 1) := by decide +kernel
theorem dX12_steps_7 : decode cX12_steps 7 = .ok (.invokevirtual 134, 3) := by decide +kernel
theorem dX12_steps_10 : decode cX12_steps 10 = .ok (.ifCond .eq 20, 3) := by decide +kernel
theorem dX12_steps_13 : decode cX12_steps 13 = .ok (.aload_n 0, 1) := by decide +kernel
theorem dX12_steps_14 : decode cX12_steps 14 = .ok (.iload_n 2, 1) := by decide +kernel
theorem dX12_steps_15 : decode cX12_steps 15 = .ok (.invokevirtual 143, 3) := by decide +kernel
theorem dX12_steps_18 : decode cX12_steps 18 = .ok (.ifCond .eq 12, 3) := by decide +kernel
theorem dX12_steps_21 : decode cX12_steps 21 = .ok (.iload_n 3, 1) := by decide +kernel
theorem dX12_steps_22 : decode cX12_steps 22 = .ok (.iconst 0, 1) := by decide +kernel
theorem dX12_steps_23 : decode cX12_steps 23 = .ok (.iconst 1, 1) := by decide +kernel
theorem dX12_steps_24 : decode cX12_steps 24 = .ok (.invokestatic 69, 3) := by decide +kernel
theorem dX12_steps_27 : decode cX12_steps 27 = .ok (.ifCond .ne 5, 3) := by decide +kernel
theorem dX12_steps_30 : decode cX12_steps 30 = .ok (.iconst (-1), 1) := by decide +kernel
theorem dX12_steps_31 : decode cX12_steps 31 = .ok (.ireturn, 1) := by decide +kernel
theorem dX12_steps_32 : decode cX12_steps 32 = .ok (.aload_n 0, 1) := by decide +kernel
theorem dX12_steps_33 : decode cX12_steps 33 = .ok (.getfield 13, 3) := by decide +kernel
theorem dX12_steps_36 : decode cX12_steps 36 = .ok (.iconst 0, 1) := by decide +kernel
theorem dX12_steps_37 : decode cX12_steps 37 = .ok (.iaload, 1) := by decide +kernel
theorem dX12_steps_38 : decode cX12_steps 38 = .ok (.istore 4, 2) := by decide +kernel
theorem dX12_steps_40 : decode cX12_steps 40 = .ok (.iconst 0, 1) := by decide +kernel
theorem dX12_steps_41 : decode cX12_steps 41 = .ok (.istore 5, 2) := by decide +kernel
theorem dX12_steps_43 : decode cX12_steps 43 = .ok (.iload 5, 2) := by decide +kernel
theorem dX12_steps_45 : decode cX12_steps 45 = .ok (.iload 4, 2) := by decide +kernel
theorem dX12_steps_47 : decode cX12_steps 47 = .ok (.if_icmp .ge 88, 3) := by decide +kernel
theorem dX12_steps_50 : decode cX12_steps 50 = .ok (.aload_n 0, 1) := by decide +kernel
theorem dX12_steps_51 : decode cX12_steps 51 = .ok (.iload_n 1, 1) := by decide +kernel
theorem dX12_steps_52 : decode cX12_steps 52 = .ok (.iload_n 2, 1) := by decide +kernel
theorem dX12_steps_53 : decode cX12_steps 53 = .ok (.aload_n 0, 1) := by decide +kernel
theorem dX12_steps_54 : decode cX12_steps 54 = .ok (.getfield 28, 3) := by decide +kernel
theorem dX12_steps_57 : decode cX12_steps 57 = .ok (.iconst 0, 1) := by decide +kernel
theorem dX12_steps_58 : decode cX12_steps 58 = .ok (.iaload, 1) := by decide +kernel
theorem dX12_steps_59 : decode cX12_steps 59 = .ok (.iload 5, 2) := by decide +kernel
theorem dX12_steps_61 : decode cX12_steps 61 = .ok (.iadd, 1) := by decide +kernel
theorem dX12_steps_62 : decode cX12_steps 62 = .ok (.iload 4, 2) := by decide +kernel
theorem dX12_steps_64 : decode cX12_steps 64 = .ok (.irem, 1) := by decide +kernel
theorem dX12_steps_65 : decode cX12_steps 65 = .ok (.invokevirtual 131, 3) := by decide +kernel
theorem dX12_steps_68 : decode cX12_steps 68 = .ok (.istore 6, 2) := by decide +kernel
theorem dX12_steps_70 : decode cX12_steps 70 = .ok (.iload 6, 2) := by decide +kernel
theorem dX12_steps_72 : decode cX12_steps 72 = .ok (.ifCond .ne 27, 3) := by decide +kernel
theorem dX12_steps_75 : decode cX12_steps 75 = .ok (.aload_n 0, 1) := by decide +kernel
theorem dX12_steps_76 : decode cX12_steps 76 = .ok (.iload_n 1, 1) := by decide +kernel
theorem dX12_steps_77 : decode cX12_steps 77 = .ok (.iload_n 2, 1) := by decide +kernel
theorem dX12_steps_78 : decode cX12_steps 78 = .ok (.aload_n 0, 1) := by decide +kernel
theorem dX12_steps_79 : decode cX12_steps 79 = .ok (.getfield 28, 3) := by decide +kernel
theorem dX12_steps_82 : decode cX12_steps 82 = .ok (.iconst 0, 1) := by decide +kernel
theorem dX12_steps_83 : decode cX12_steps 83 = .ok (.iaload, 1) := by decide +kernel
theorem dX12_steps_84 : decode cX12_steps 84 = .ok (.iload 4, 2) := by decide +kernel
theorem dX12_steps_86 : decode cX12_steps 86 = .ok (.iadd, 1) := by decide +kernel
theorem dX12_steps_87 : decode cX12_steps 87 = .ok (.iload 5, 2) := by decide +kernel
theorem dX12_steps_89 : decode cX12_steps 89 = .ok (.isub, 1) := by decide +kernel
theorem dX12_steps_90 : decode cX12_steps 90 = .ok (.iload 4, 2) := by decide +kernel
theorem dX12_steps_92 : decode cX12_steps 92 = .ok (.irem, 1) := by decide +kernel
theorem dX12_steps_93 : decode cX12_steps 93 = .ok (.invokevirtual 131, 3) := by decide +kernel
theorem dX12_steps_96 : decode cX12_steps 96 = .ok (.ifCond .eq 33, 3) := by decide +kernel
theorem dX12_steps_99 : decode cX12_steps 99 = .ok (.iload_n 3, 1) := by decide +kernel
theorem dX12_steps_100 : decode cX12_steps 100 = .ok (.ifCond .ne 8, 3) := by decide +kernel
theorem dX12_steps_103 : decode cX12_steps 103 = .ok (.iload 5, 2) := by decide +kernel
theorem dX12_steps_105 : decode cX12_steps 105 = .ok (.goto 23, 3) := by decide +kernel
theorem dX12_steps_108 : decode cX12_steps 108 = .ok (.iload 5, 2) := by decide +kernel
theorem dX12_steps_110 : decode cX12_steps 110 = .ok (.ifCond .ne 8, 3) := by decide +kernel
theorem dX12_steps_113 : decode cX12_steps 113 = .ok (.bipush (-9), 2) := by decide +kernel
theorem dX12_steps_115 : decode cX12_steps 115 = .ok (.goto 13, 3) := by decide +kernel
theorem dX12_steps_118 : decode cX12_steps 118 = .ok (.iload 6, 2) := by decide +kernel
theorem dX12_steps_120 : decode cX12_steps 120 = .ok (.ifCond .eq 7, 3) := by decide +kernel
theorem dX12_steps_123 : decode cX12_steps 123 = .ok (.iconst 0, 1) := by decide +kernel
theorem dX12_steps_124 : decode cX12_steps 124 = .ok (.goto 4, 3) := by decide +kernel
theorem dX12_steps_127 : decode cX12_steps 127 = .ok (.iconst 1, 1) := by decide +kernel
theorem dX12_steps_128 : decode cX12_steps 128 = .ok (.ireturn, 1) := by decide +kernel
theorem dX12_steps_129 : decode cX12_steps 129 = .ok (.iinc 5 1, 3) := by decide +kernel
theorem dX12_steps_132 : decode cX12_steps 132 = .ok (.goto (-89), 3) := by decide +kernel
theorem dX12_steps_135 : decode cX12_steps 135 = .ok (.bipush (-9), 2) := by decide +kernel
theorem dX12_steps_137 : decode cX12_steps 137 = .ok (.ireturn, 1) := by decide +kernel
theorem dX12_puts_0 : decode cX12_puts 0 = .ok (.aload_n 0, 1) := by decide +kernel
theorem dX12_puts_1 : decode cX12_puts 1 = .ok (.iconst 0, 1) := by decide +kernel
theorem dX12_puts_2 : decode cX12_puts 2 = .ok (.putfield 65, 3) := by decide +kernel
theorem dX12_puts_5 : decode cX12_puts 5 = .ok (.aload_n 0, 1) := by decide +kernel
theorem dX12_puts_6 : decode cX12_puts 6 = .ok (.iload_n 1, 1) := by decide +kernel
theorem dX12_puts_7 : decode cX12_puts 7 = .ok (.invokevirtual 143, 3) := by decide +kernel
theorem dX12_puts_10 : decode cX12_puts 10 = .ok (.ifCond .ne 5, 3) := by decide +kernel
theorem dX12_puts_13 : decode cX12_puts 13 = .ok (.iconst (-1), 1) := by decide +kernel
theorem dX12_puts_14 : decode cX12_puts 14 = .ok (.ireturn, 1) := by decide +kernel
theorem dX12_puts_15 : decode cX12_puts 15 = .ok (.aload_n 0, 1) := by decide +kernel
theorem dX12_puts_16 : decode cX12_puts 16 = .ok (.getfield 28, 3) := by decide +kernel
theorem dX12_puts_19 : decode cX12_puts 19 = .ok (.bipush 7, 2) := by decide +kernel
theorem dX12_puts_21 : decode cX12_puts 21 = .ok (.iload_n 1, 1) := by decide +kernel
theorem dX12_puts_22 : decode cX12_puts 22 = .ok (.iadd, 1) := by decide +kernel
theorem dX12_puts_23 : decode cX12_puts 23 = .ok (.iaload, 1) := by decide +kernel
theorem dX12_puts_24 : decode cX12_puts 24 = .ok (.istore_n 2, 1) := by decide +kernel
theorem dX12_puts_25 : decode cX12_puts 25 = .ok (.bipush (-9), 2) := by decide +kernel
theorem dX12_puts_27 : decode cX12_puts 27 = .ok (.istore_n 3, 1) := by decide +kernel
theorem dX12_puts_28 : decode cX12_puts 28 = .ok (.bipush 99, 2) := by decide +kernel
theorem dX12_puts_30 : decode cX12_puts 30 = .ok (.istore 4, 2) := by decide +kernel
theorem dX12_puts_32 : decode cX12_puts 32 = .ok (.iconst 0, 1) := by decide +kernel
theorem dX12_puts_33 : decode cX12_puts 33 = .ok (.istore 5, 2) := by decide +kernel
theorem dX12_puts_35 : decode cX12_puts 35 = .ok (.iload 5, 2) := by decide +kernel
theorem dX12_puts_37 : decode cX12_puts 37 = .ok (.aload_n 0, 1) := by decide +kernel
theorem dX12_puts_38 : decode cX12_puts 38 = .ok (.getfield 13, 3) := by decide +kernel
theorem dX12_puts_41 : decode cX12_puts 41 = .ok (.iconst 0, 1) := by decide +kernel
theorem dX12_puts_42 : decode cX12_puts 42 = .ok (.iaload, 1) := by decide +kernel
theorem dX12_puts_43 : decode cX12_puts 43 = .ok (.if_icmp .ge 95, 3) := by decide +kernel
theorem dX12_puts_46 : decode cX12_puts 46 = .ok (.iload 5, 2) := by decide +kernel
theorem dX12_puts_48 : decode cX12_puts 48 = .ok (.iload_n 2, 1) := by decide +kernel
theorem dX12_puts_49 : decode cX12_puts 49 = .ok (.if_icmp .eq 12, 3) := by decide +kernel
theorem dX12_puts_52 : decode cX12_puts 52 = .ok (.aload_n 0, 1) := by decide +kernel
theorem dX12_puts_53 : decode cX12_puts 53 = .ok (.iload 5, 2) := by decide +kernel
theorem dX12_puts_55 : decode cX12_puts 55 = .ok (.invokevirtual 184, 3) := by decide +kernel
theorem dX12_puts_58 : decode cX12_puts 58 = .ok (.ifCond .eq 74, 3) := by decide +kernel
theorem dX12_puts_61 : decode cX12_puts 61 = .ok (.aload_n 0, 1) := by decide +kernel
theorem dX12_puts_62 : decode cX12_puts 62 = .ok (.getfield 28, 3) := by decide +kernel
theorem dX12_puts_65 : decode cX12_puts 65 = .ok (.bipush 7, 2) := by decide +kernel
theorem dX12_puts_67 : decode cX12_puts 67 = .ok (.iload_n 1, 1) := by decide +kernel
theorem dX12_puts_68 : decode cX12_puts 68 = .ok (.iadd, 1) := by decide +kernel
theorem dX12_puts_69 : decode cX12_puts 69 = .ok (.iload 5, 2) := by decide +kernel
theorem dX12_puts_71 : decode cX12_puts 71 = .ok (.iastore, 1) := by decide +kernel
theorem dX12_puts_72 : decode cX12_puts 72 = .ok (.aload_n 0, 1) := by decide +kernel
theorem dX12_puts_73 : decode cX12_puts 73 = .ok (.invokevirtual 159, 3) := by decide +kernel
theorem dX12_puts_76 : decode cX12_puts 76 = .ok (.istore 6, 2) := by decide +kernel
theorem dX12_puts_78 : decode cX12_puts 78 = .ok (.iload 6, 2) := by decide +kernel
theorem dX12_puts_80 : decode cX12_puts 80 = .ok (.bipush (-9), 2) := by decide +kernel
theorem dX12_puts_82 : decode cX12_puts 82 = .ok (.if_icmp .eq 15, 3) := by decide +kernel
theorem dX12_puts_85 : decode cX12_puts 85 = .ok (.iload 6, 2) := by decide +kernel
theorem dX12_puts_87 : decode cX12_puts 87 = .ok (.iload 4, 2) := by decide +kernel
theorem dX12_puts_89 : decode cX12_puts 89 = .ok (.if_icmp .ge 8, 3) := by decide +kernel
theorem dX12_puts_92 : decode cX12_puts 92 = .ok (.iload 5, 2) := by decide +kernel
theorem dX12_puts_94 : decode cX12_puts 94 = .ok (.goto 4, 3) := by decide +kernel
theorem dX12_puts_97 : decode cX12_puts 97 = .ok (.iload_n 3, 1) := by decide +kernel
theorem dX12_puts_98 : decode cX12_puts 98 = .ok (.istore_n 3, 1) := by decide +kernel
theorem dX12_puts_99 : decode cX12_puts 99 = .ok (.iload 6, 2) := by decide +kernel
theorem dX12_puts_101 : decode cX12_puts 101 = .ok (.bipush (-9), 2) := by decide +kernel
theorem dX12_puts_103 : decode cX12_puts 103 = .ok (.if_icmp .eq 15, 3) := by decide +kernel
theorem dX12_puts_106 : decode cX12_puts 106 = .ok (.iload 6, 2) := by decide +kernel
theorem dX12_puts_108 : decode cX12_puts 108 = .ok (.iload 4, 2) := by decide +kernel
theorem dX12_puts_110 : decode cX12_puts 110 = .ok (.if_icmp .ge 8, 3) := by decide +kernel
theorem dX12_puts_113 : decode cX12_puts 113 = .ok (.iload 6, 2) := by decide +kernel
theorem dX12_puts_115 : decode cX12_puts 115 = .ok (.goto 5, 3) := by decide +kernel
theorem dX12_puts_118 : decode cX12_puts 118 = .ok (.iload 4, 2) := by decide +kernel
theorem dX12_puts_120 : decode cX12_puts 120 = .ok (.istore 4, 2) := by decide +kernel
theorem dX12_puts_122 : decode cX12_puts 122 = .ok (.aload_n 0, 1) := by decide +kernel
theorem dX12_puts_123 : decode cX12_puts 123 = .ok (.getfield 28, 3) := by decide +kernel
theorem dX12_puts_126 : decode cX12_puts 126 = .ok (.bipush 7, 2) := by decide +kernel
theorem dX12_puts_128 : decode cX12_puts 128 = .ok (.iload_n 1, 1) := by decide +kernel
theorem dX12_puts_129 : decode cX12_puts 129 = .ok (.iadd, 1) := by decide +kernel
theorem dX12_puts_130 : decode cX12_puts 130 = .ok (.iload_n 2, 1) := by decide +kernel
theorem dX12_puts_131 : decode cX12_puts 131 = .ok (.iastore, 1) := by decide +kernel
theorem dX12_puts_132 : decode cX12_puts 132 = .ok (.iinc 5 1, 3) := by decide +kernel
theorem dX12_puts_135 : decode cX12_puts 135 = .ok (.goto (-100), 3) := by decide +kernel
theorem dX12_puts_138 : decode cX12_puts 138 = .ok (.iload_n 3, 1) := by decide +kernel
theorem dX12_puts_139 : decode cX12_puts 139 = .ok (.ireturn, 1) := by decide +kernel
theorem dX12_fed_0 : decode cX12_fed 0 = .ok (.aload_n 0, 1) := by decide +kernel
theorem dX12_fed_1 : decode cX12_fed 1 = .ok (.iconst 0, 1) := by decide +kernel
theorem dX12_fed_2 : decode cX12_fed 2 = .ok (.putfield 65, 3) := by decide +kernel
theorem dX12_fed_5 : decode cX12_fed 5 = .ok (.aload_n 0, 1) := by decide +kernel
theorem dX12_fed_6 : decode cX12_fed 6 = .ok (.iload_n 1, 1) := by decide +kernel
theorem dX12_fed_7 : decode cX12_fed 7 = .ok (.invokevirtual 134, 3) := by decide +kernel
theorem dX12_fed_10 : decode cX12_fed 10 = .ok (.ifCond .ne 5, 3) := by decide +kernel
theorem dX12_fed_13 : decode cX12_fed 13 = .ok (.iconst (-1), 1) := by decide +kernel
theorem dX12_fed_14 : decode cX12_fed 14 = .ok (.ireturn, 1) := by decide +kernel
theorem dX12_fed_15 : decode cX12_fed 15 = .ok (.aload_n 0, 1) := by decide +kernel
theorem dX12_fed_16 : decode cX12_fed 16 = .ok (.invokevirtual 175, 3) := by decide +kernel
theorem dX12_fed_19 : decode cX12_fed 19 = .ok (.pop, 1) := by decide +kernel
theorem dX12_fed_20 : decode cX12_fed 20 = .ok (.aload_n 0, 1) := by decide +kernel
theorem dX12_fed_21 : decode cX12_fed 21 = .ok (.getfield 53, 3) := by decide +kernel
theorem dX12_fed_24 : decode cX12_fed 24 = .ok (.iload_n 1, 1) := by decide +kernel
theorem dX12_fed_25 : decode cX12_fed 25 = .ok (.iaload, 1) := by decide +kernel
theorem dX12_fed_26 : decode cX12_fed 26 = .ok (.bipush 6, 2) := by decide +kernel
theorem dX12_fed_28 : decode cX12_fed 28 = .ok (.if_icmp .ne 8, 3) := by decide +kernel
theorem dX12_fed_31 : decode cX12_fed 31 = .ok (.bipush (-9), 2) := by decide +kernel
theorem dX12_fed_33 : decode cX12_fed 33 = .ok (.goto 9, 3) := by decide +kernel
theorem dX12_fed_36 : decode cX12_fed 36 = .ok (.aload_n 0, 1) := by decide +kernel
theorem dX12_fed_37 : decode cX12_fed 37 = .ok (.getfield 53, 3) := by decide +kernel
theorem dX12_fed_40 : decode cX12_fed 40 = .ok (.iload_n 1, 1) := by decide +kernel
theorem dX12_fed_41 : decode cX12_fed 41 = .ok (.iaload, 1) := by decide +kernel
theorem dX12_fed_42 : decode cX12_fed 42 = .ok (.ireturn, 1) := by decide +kernel
theorem dX12_power_0 : decode cX12_power 0 = .ok (.iconst 1, 1) := by decide +kernel
theorem dX12_power_1 : decode cX12_power 1 = .ok (.istore_n 2, 1) := by decide +kernel
theorem dX12_power_2 : decode cX12_power 2 = .ok (.iconst 0, 1) := by decide +kernel
theorem dX12_power_3 : decode cX12_power 3 = .ok (.istore_n 3, 1) := by decide +kernel
theorem dX12_power_4 : decode cX12_power 4 = .ok (.iload_n 3, 1) := by decide +kernel
theorem dX12_power_5 : decode cX12_power 5 = .ok (.iload_n 1, 1) := by decide +kernel
theorem dX12_power_6 : decode cX12_power 6 = .ok (.if_icmp .ge 13, 3) := by decide +kernel
theorem dX12_power_9 : decode cX12_power 9 = .ok (.iload_n 2, 1) := by decide +kernel
theorem dX12_power_10 : decode cX12_power 10 = .ok (.iload_n 0, 1) := by decide +kernel
theorem dX12_power_11 : decode cX12_power 11 = .ok (.imul, 1) := by decide +kernel
theorem dX12_power_12 : decode cX12_power 12 = .ok (.istore_n 2, 1) := by decide +kernel
theorem dX12_power_13 : decode cX12_power 13 = .ok (.iinc 3 1, 3) := by decide +kernel
theorem dX12_power_16 : decode cX12_power 16 = .ok (.goto (-12), 3) := by decide +kernel
theorem dX12_power_19 : decode cX12_power 19 = .ok (.iload_n 2, 1) := by decide +kernel
theorem dX12_power_20 : decode cX12_power 20 = .ok (.ireturn, 1) := by decide +kernel
theorem dX12_gcd_0 : decode cX12_gcd 0 = .ok (.iload_n 0, 1) := by decide +kernel
theorem dX12_gcd_1 : decode cX12_gcd 1 = .ok (.istore_n 2, 1) := by decide +kernel
theorem dX12_gcd_2 : decode cX12_gcd 2 = .ok (.iload_n 1, 1) := by decide +kernel
theorem dX12_gcd_3 : decode cX12_gcd 3 = .ok (.istore_n 3, 1) := by decide +kernel
theorem dX12_gcd_4 : decode cX12_gcd 4 = .ok (.iload_n 3, 1) := by decide +kernel
theorem dX12_gcd_5 : decode cX12_gcd 5 = .ok (.ifCond .eq 16, 3) := by decide +kernel
theorem dX12_gcd_8 : decode cX12_gcd 8 = .ok (.iload_n 2, 1) := by decide +kernel
theorem dX12_gcd_9 : decode cX12_gcd 9 = .ok (.iload_n 3, 1) := by decide +kernel
theorem dX12_gcd_10 : decode cX12_gcd 10 = .ok (.irem, 1) := by decide +kernel
theorem dX12_gcd_11 : decode cX12_gcd 11 = .ok (.istore 4, 2) := by decide +kernel
theorem dX12_gcd_13 : decode cX12_gcd 13 = .ok (.iload_n 3, 1) := by decide +kernel
theorem dX12_gcd_14 : decode cX12_gcd 14 = .ok (.istore_n 2, 1) := by decide +kernel
theorem dX12_gcd_15 : decode cX12_gcd 15 = .ok (.iload 4, 2) := by decide +kernel
theorem dX12_gcd_17 : decode cX12_gcd 17 = .ok (.istore_n 3, 1) := by decide +kernel
theorem dX12_gcd_18 : decode cX12_gcd 18 = .ok (.goto (-14), 3) := by decide +kernel
theorem dX12_gcd_21 : decode cX12_gcd 21 = .ok (.iload_n 2, 1) := by decide +kernel
theorem dX12_gcd_22 : decode cX12_gcd 22 = .ok (.ireturn, 1) := by decide +kernel
theorem dX12_odds_0 : decode cX12_odds 0 = .ok (.aload_n 0, 1) := by decide +kernel
theorem dX12_odds_1 : decode cX12_odds 1 = .ok (.iconst 0, 1) := by decide +kernel
theorem dX12_odds_2 : decode cX12_odds 2 = .ok (.putfield 65, 3) := by decide +kernel
theorem dX12_odds_5 : decode cX12_odds 5 = .ok (.iload_n 1, 1) := by decide +kernel
theorem dX12_odds_6 : decode cX12_odds 6 = .ok (.iconst 0, 1) := by decide +kernel
theorem dX12_odds_7 : decode cX12_odds 7 = .ok (.bipush 10, 2) := by decide +kernel
theorem dX12_odds_9 : decode cX12_odds 9 = .ok (.invokestatic 69, 3) := by decide +kernel
theorem dX12_odds_12 : decode cX12_odds 12 = .ok (.ifCond .eq 20, 3) := by decide +kernel
theorem dX12_odds_15 : decode cX12_odds 15 = .ok (.aload_n 0, 1) := by decide +kernel
theorem dX12_odds_16 : decode cX12_odds 16 = .ok (.iload_n 2, 1) := by decide +kernel
theorem dX12_odds_17 : decode cX12_odds 17 = .ok (.invokevirtual 181, 3) := by decide +kernel
theorem dX12_odds_20 : decode cX12_odds 20 = .ok (.ifCond .eq 12, 3) := by decide +kernel
theorem dX12_odds_23 : decode cX12_odds 23 = .ok (.iload_n 3, 1) := by decide +kernel
theorem dX12_odds_24 : decode cX12_odds 24 = .ok (.iconst 0, 1) := by decide +kernel
theorem dX12_odds_25 : decode cX12_odds 25 = .ok (.iconst 1, 1) := by decide +kernel
theorem dX12_odds_26 : decode cX12_odds 26 = .ok (.invokestatic 69, 3) := by decide +kernel
theorem dX12_odds_29 : decode cX12_odds 29 = .ok (.ifCond .ne 5, 3) := by decide +kernel
theorem dX12_odds_32 : decode cX12_odds 32 = .ok (.iconst (-1), 1) := by decide +kernel
theorem dX12_odds_33 : decode cX12_odds 33 = .ok (.ireturn, 1) := by decide +kernel
theorem dX12_odds_34 : decode cX12_odds 34 = .ok (.aload_n 0, 1) := by decide +kernel
theorem dX12_odds_35 : decode cX12_odds 35 = .ok (.getfield 13, 3) := by decide +kernel
theorem dX12_odds_38 : decode cX12_odds 38 = .ok (.iconst 1, 1) := by decide +kernel
theorem dX12_odds_39 : decode cX12_odds 39 = .ok (.iaload, 1) := by decide +kernel
theorem dX12_odds_40 : decode cX12_odds 40 = .ok (.istore 4, 2) := by decide +kernel
theorem dX12_odds_42 : decode cX12_odds 42 = .ok (.iconst 0, 1) := by decide +kernel
theorem dX12_odds_43 : decode cX12_odds 43 = .ok (.istore 5, 2) := by decide +kernel
theorem dX12_odds_45 : decode cX12_odds 45 = .ok (.iconst 0, 1) := by decide +kernel
theorem dX12_odds_46 : decode cX12_odds 46 = .ok (.istore 6, 2) := by decide +kernel
theorem dX12_odds_48 : decode cX12_odds 48 = .ok (.iload 6, 2) := by decide +kernel
theorem dX12_odds_50 : decode cX12_odds 50 = .ok (.iconst 1, 1) := by decide +kernel
theorem dX12_odds_51 : decode cX12_odds 51 = .ok (.iload 4, 2) := by decide +kernel
theorem dX12_odds_53 : decode cX12_odds 53 = .ok (.ishl, 1) := by decide +kernel
theorem dX12_odds_54 : decode cX12_odds 54 = .ok (.if_icmp .ge 78, 3) := by decide +kernel
theorem dX12_odds_57 : decode cX12_odds 57 = .ok (.aload_n 0, 1) := by decide +kernel
theorem dX12_odds_58 : decode cX12_odds 58 = .ok (.getfield 28, 3) := by decide +kernel
theorem dX12_odds_61 : decode cX12_odds 61 = .ok (.iconst 0, 1) := by decide +kernel
theorem dX12_odds_62 : decode cX12_odds 62 = .ok (.iaload, 1) := by decide +kernel
theorem dX12_odds_63 : decode cX12_odds 63 = .ok (.iload 6, 2) := by decide +kernel
theorem dX12_odds_65 : decode cX12_odds 65 = .ok (.invokestatic 187, 3) := by decide +kernel
theorem dX12_odds_68 : decode cX12_odds 68 = .ok (.iadd, 1) := by decide +kernel
theorem dX12_odds_69 : decode cX12_odds 69 = .ok (.aload_n 0, 1) := by decide +kernel
theorem dX12_odds_70 : decode cX12_odds 70 = .ok (.getfield 13, 3) := by decide +kernel
theorem dX12_odds_73 : decode cX12_odds 73 = .ok (.iconst 0, 1) := by decide +kernel
theorem dX12_odds_74 : decode cX12_odds 74 = .ok (.iaload, 1) := by decide +kernel
theorem dX12_odds_75 : decode cX12_odds 75 = .ok (.irem, 1) := by decide +kernel
theorem dX12_odds_76 : decode cX12_odds 76 = .ok (.iload_n 2, 1) := by decide +kernel
theorem dX12_odds_77 : decode cX12_odds 77 = .ok (.if_icmp .ne 7, 3) := by decide +kernel
theorem dX12_odds_80 : decode cX12_odds 80 = .ok (.iconst 1, 1) := by decide +kernel
theorem dX12_odds_81 : decode cX12_odds 81 = .ok (.goto 4, 3) := by decide +kernel
theorem dX12_odds_84 : decode cX12_odds 84 = .ok (.iconst 0, 1) := by decide +kernel
theorem dX12_odds_85 : decode cX12_odds 85 = .ok (.istore 7, 2) := by decide +kernel
theorem dX12_odds_87 : decode cX12_odds 87 = .ok (.iload 5, 2) := by decide +kernel
theorem dX12_odds_89 : decode cX12_odds 89 = .ok (.iload 7, 2) := by decide +kernel
theorem dX12_odds_91 : decode cX12_odds 91 = .ok (.ifCond .eq 31, 3) := by decide +kernel
theorem dX12_odds_94 : decode cX12_odds 94 = .ok (.iload_n 1, 1) := by decide +kernel
theorem dX12_odds_95 : decode cX12_odds 95 = .ok (.iload 6, 2) := by decide +kernel
theorem dX12_odds_97 : decode cX12_odds 97 = .ok (.invokestatic 187, 3) := by decide +kernel
theorem dX12_odds_100 : decode cX12_odds 100 = .ok (.invokestatic 190, 3) := by decide +kernel
theorem dX12_odds_103 : decode cX12_odds 103 = .ok (.bipush 10, 2) := by decide +kernel
theorem dX12_odds_105 : decode cX12_odds 105 = .ok (.iload_n 1, 1) := by decide +kernel
theorem dX12_odds_106 : decode cX12_odds 106 = .ok (.isub, 1) := by decide +kernel
theorem dX12_odds_107 : decode cX12_odds 107 = .ok (.iload 4, 2) := by decide +kernel
theorem dX12_odds_109 : decode cX12_odds 109 = .ok (.iload 6, 2) := by decide +kernel
theorem dX12_odds_111 : decode cX12_odds 111 = .ok (.invokestatic 187, 3) := by decide +kernel
theorem dX12_odds_114 : decode cX12_odds 114 = .ok (.isub, 1) := by decide +kernel
theorem dX12_odds_115 : decode cX12_odds 115 = .ok (.invokestatic 190, 3) := by decide +kernel
theorem dX12_odds_118 : decode cX12_odds 118 = .ok (.imul, 1) := by decide +kernel
theorem dX12_odds_119 : decode cX12_odds 119 = .ok (.goto 4, 3) := by decide +kernel
theorem dX12_odds_122 : decode cX12_odds 122 = .ok (.iconst 0, 1) := by decide +kernel
theorem dX12_odds_123 : decode cX12_odds 123 = .ok (.iadd, 1) := by decide +kernel
theorem dX12_odds_124 : decode cX12_odds 124 = .ok (.istore 5, 2) := by decide +kernel
theorem dX12_odds_126 : decode cX12_odds 126 = .ok (.iinc 6 1, 3) := by decide +kernel
theorem dX12_odds_129 : decode cX12_odds 129 = .ok (.goto (-81), 3) := by decide +kernel
theorem dX12_odds_132 : decode cX12_odds 132 = .ok (.bipush 10, 2) := by decide +kernel
theorem dX12_odds_134 : decode cX12_odds 134 = .ok (.iload 4, 2) := by decide +kernel
theorem dX12_odds_136 : decode cX12_odds 136 = .ok (.invokestatic 190, 3) := by decide +kernel
theorem dX12_odds_139 : decode cX12_odds 139 = .ok (.istore 6, 2) := by decide +kernel
theorem dX12_odds_141 : decode cX12_odds 141 = .ok (.iload 5, 2) := by decide +kernel
theorem dX12_odds_143 : decode cX12_odds 143 = .ok (.iload 6, 2) := by decide +kernel
theorem dX12_odds_145 : decode cX12_odds 145 = .ok (.invokestatic 193, 3) := by decide +kernel
theorem dX12_odds_148 : decode cX12_odds 148 = .ok (.istore 7, 2) := by decide +kernel
theorem dX12_odds_150 : decode cX12_odds 150 = .ok (.iload_n 3, 1) := by decide +kernel
theorem dX12_odds_151 : decode cX12_odds 151 = .ok (.ifCond .ne 11, 3) := by decide +kernel
theorem dX12_odds_154 : decode cX12_odds 154 = .ok (.iload 5, 2) := by decide +kernel
theorem dX12_odds_156 : decode cX12_odds 156 = .ok (.iload 7, 2) := by decide +kernel
theorem dX12_odds_158 : decode cX12_odds 158 = .ok (.idiv, 1) := by decide +kernel
theorem dX12_odds_159 : decode cX12_odds 159 = .ok (.goto 8, 3) := by decide +kernel
theorem dX12_odds_162 : decode cX12_odds 162 = .ok (.iload 6, 2) := by decide +kernel
theorem dX12_odds_164 : decode cX12_odds 164 = .ok (.iload 7, 2) := by decide +kernel
theorem dX12_odds_166 : decode cX12_odds 166 = .ok (.idiv, 1) := by decide +kernel
theorem dX12_odds_167 : decode cX12_odds 167 = .ok (.ireturn, 1) := by decide +kernel
theorem dX12_sees_0 : decode cX12_sees 0 = .ok (.aload_n 0, 1) := by decide +kernel
theorem dX12_sees_1 : decode cX12_sees 1 = .ok (.iconst 0, 1) := by decide +kernel
theorem dX12_sees_2 : decode cX12_sees 2 = .ok (.putfield 65, 3) := by decide +kernel
theorem dX12_sees_5 : decode cX12_sees 5 = .ok (.aload_n 0, 1) := by decide +kernel
theorem dX12_sees_6 : decode cX12_sees 6 = .ok (.iload_n 1, 1) := by decide +kernel
theorem dX12_sees_7 : decode cX12_sees 7 = .ok (.invokevirtual 143, 3) := by decide +kernel
theorem dX12_sees_10 : decode cX12_sees 10 = .ok (.ifCond .eq 20, 3) := by decide +kernel
theorem dX12_sees_13 : decode cX12_sees 13 = .ok (.aload_n 0, 1) := by decide +kernel
theorem dX12_sees_14 : decode cX12_sees 14 = .ok (.iload_n 2, 1) := by decide +kernel
theorem dX12_sees_15 : decode cX12_sees 15 = .ok (.invokevirtual 181, 3) := by decide +kernel
theorem dX12_sees_18 : decode cX12_sees 18 = .ok (.ifCond .eq 12, 3) := by decide +kernel
theorem dX12_sees_21 : decode cX12_sees 21 = .ok (.iload_n 3, 1) := by decide +kernel
theorem dX12_sees_22 : decode cX12_sees 22 = .ok (.iconst 0, 1) := by decide +kernel
theorem dX12_sees_23 : decode cX12_sees 23 = .ok (.iconst 1, 1) := by decide +kernel
theorem dX12_sees_24 : decode cX12_sees 24 = .ok (.invokestatic 69, 3) := by decide +kernel
theorem dX12_sees_27 : decode cX12_sees 27 = .ok (.ifCond .ne 5, 3) := by decide +kernel
theorem dX12_sees_30 : decode cX12_sees 30 = .ok (.iconst (-1), 1) := by decide +kernel
theorem dX12_sees_31 : decode cX12_sees 31 = .ok (.ireturn, 1) := by decide +kernel
theorem dX12_sees_32 : decode cX12_sees 32 = .ok (.aload_n 0, 1) := by decide +kernel
theorem dX12_sees_33 : decode cX12_sees 33 = .ok (.getfield 125, 3) := by decide +kernel
theorem dX12_sees_36 : decode cX12_sees 36 = .ok (.bipush 6, 2) := by decide +kernel
theorem dX12_sees_38 : decode cX12_sees 38 = .ok (.if_icmp .ne 6, 3) := by decide +kernel
theorem dX12_sees_41 : decode cX12_sees 41 = .ok (.bipush (-3), 2) := by decide +kernel
theorem dX12_sees_43 : decode cX12_sees 43 = .ok (.ireturn, 1) := by decide +kernel
theorem dX12_sees_44 : decode cX12_sees 44 = .ok (.aload_n 0, 1) := by decide +kernel
theorem dX12_sees_45 : decode cX12_sees 45 = .ok (.getfield 41, 3) := by decide +kernel
theorem dX12_sees_48 : decode cX12_sees 48 = .ok (.aload_n 0, 1) := by decide +kernel
theorem dX12_sees_49 : decode cX12_sees 49 = .ok (.getfield 125, 3) := by decide +kernel
theorem dX12_sees_52 : decode cX12_sees 52 = .ok (.iload_n 1, 1) := by decide +kernel
theorem dX12_sees_53 : decode cX12_sees 53 = .ok (.iastore, 1) := by decide +kernel
theorem dX12_sees_54 : decode cX12_sees 54 = .ok (.aload_n 0, 1) := by decide +kernel
theorem dX12_sees_55 : decode cX12_sees 55 = .ok (.getfield 44, 3) := by decide +kernel
theorem dX12_sees_58 : decode cX12_sees 58 = .ok (.aload_n 0, 1) := by decide +kernel
theorem dX12_sees_59 : decode cX12_sees 59 = .ok (.getfield 125, 3) := by decide +kernel
theorem dX12_sees_62 : decode cX12_sees 62 = .ok (.iload_n 2, 1) := by decide +kernel
theorem dX12_sees_63 : decode cX12_sees 63 = .ok (.iastore, 1) := by decide +kernel
theorem dX12_sees_64 : decode cX12_sees 64 = .ok (.aload_n 0, 1) := by decide +kernel
theorem dX12_sees_65 : decode cX12_sees 65 = .ok (.getfield 47, 3) := by decide +kernel
theorem dX12_sees_68 : decode cX12_sees 68 = .ok (.aload_n 0, 1) := by decide +kernel
theorem dX12_sees_69 : decode cX12_sees 69 = .ok (.getfield 125, 3) := by decide +kernel
theorem dX12_sees_72 : decode cX12_sees 72 = .ok (.iload_n 3, 1) := by decide +kernel
theorem dX12_sees_73 : decode cX12_sees 73 = .ok (.iastore, 1) := by decide +kernel
theorem dX12_sees_74 : decode cX12_sees 74 = .ok (.aload_n 0, 1) := by decide +kernel
theorem dX12_sees_75 : decode cX12_sees 75 = .ok (.dup, 1) := by decide +kernel
theorem dX12_sees_76 : decode cX12_sees 76 = .ok (.getfield 125, 3) := by decide +kernel
theorem dX12_sees_79 : decode cX12_sees 79 = .ok (.iconst 1, 1) := by decide +kernel
theorem dX12_sees_80 : decode cX12_sees 80 = .ok (.iadd, 1) := by decide +kernel
theorem dX12_sees_81 : decode cX12_sees 81 = .ok (.putfield 125, 3) := by decide +kernel
theorem dX12_sees_84 : decode cX12_sees 84 = .ok (.aload_n 0, 1) := by decide +kernel
theorem dX12_sees_85 : decode cX12_sees 85 = .ok (.getfield 125, 3) := by decide +kernel
theorem dX12_sees_88 : decode cX12_sees 88 = .ok (.ireturn, 1) := by decide +kernel
theorem dX12_forget_0 : decode cX12_forget 0 = .ok (.aload_n 0, 1) := by decide +kernel
theorem dX12_forget_1 : decode cX12_forget 1 = .ok (.iconst 0, 1) := by decide +kernel
theorem dX12_forget_2 : decode cX12_forget 2 = .ok (.putfield 65, 3) := by decide +kernel
theorem dX12_forget_5 : decode cX12_forget 5 = .ok (.aload_n 0, 1) := by decide +kernel
theorem dX12_forget_6 : decode cX12_forget 6 = .ok (.getfield 125, 3) := by decide +kernel
theorem dX12_forget_9 : decode cX12_forget 9 = .ok (.istore_n 1, 1) := by decide +kernel
theorem dX12_forget_10 : decode cX12_forget 10 = .ok (.aload_n 0, 1) := by decide +kernel
theorem dX12_forget_11 : decode cX12_forget 11 = .ok (.iconst 0, 1) := by decide +kernel
theorem dX12_forget_12 : decode cX12_forget 12 = .ok (.putfield 125, 3) := by decide +kernel
theorem dX12_forget_15 : decode cX12_forget 15 = .ok (.iload_n 1, 1) := by decide +kernel
theorem dX12_forget_16 : decode cX12_forget 16 = .ok (.ireturn, 1) := by decide +kernel
theorem dX12_whoCan_0 : decode cX12_whoCan 0 = .ok (.iconst 1, 1) := by decide +kernel
theorem dX12_whoCan_1 : decode cX12_whoCan 1 = .ok (.aload_n 0, 1) := by decide +kernel
theorem dX12_whoCan_2 : decode cX12_whoCan 2 = .ok (.getfield 13, 3) := by decide +kernel
theorem dX12_whoCan_5 : decode cX12_whoCan 5 = .ok (.iconst 1, 1) := by decide +kernel
theorem dX12_whoCan_6 : decode cX12_whoCan 6 = .ok (.iaload, 1) := by decide +kernel
theorem dX12_whoCan_7 : decode cX12_whoCan 7 = .ok (.ishl, 1) := by decide +kernel
theorem dX12_whoCan_8 : decode cX12_whoCan 8 = .ok (.iconst 1, 1) := by decide +kernel
theorem dX12_whoCan_9 : decode cX12_whoCan 9 = .ok (.isub, 1) := by decide +kernel
theorem dX12_whoCan_10 : decode cX12_whoCan 10 = .ok (.istore_n 1, 1) := by decide +kernel
theorem dX12_whoCan_11 : decode cX12_whoCan 11 = .ok (.iconst 0, 1) := by decide +kernel
theorem dX12_whoCan_12 : decode cX12_whoCan 12 = .ok (.istore_n 2, 1) := by decide +kernel
theorem dX12_whoCan_13 : decode cX12_whoCan 13 = .ok (.iload_n 2, 1) := by decide +kernel
theorem dX12_whoCan_14 : decode cX12_whoCan 14 = .ok (.aload_n 0, 1) := by decide +kernel
theorem dX12_whoCan_15 : decode cX12_whoCan 15 = .ok (.getfield 125, 3) := by decide +kernel
theorem dX12_whoCan_18 : decode cX12_whoCan 18 = .ok (.if_icmp .ge 46, 3) := by decide +kernel
theorem dX12_whoCan_21 : decode cX12_whoCan 21 = .ok (.aload_n 0, 1) := by decide +kernel
theorem dX12_whoCan_22 : decode cX12_whoCan 22 = .ok (.aload_n 0, 1) := by decide +kernel
theorem dX12_whoCan_23 : decode cX12_whoCan 23 = .ok (.getfield 41, 3) := by decide +kernel
theorem dX12_whoCan_26 : decode cX12_whoCan 26 = .ok (.iload_n 2, 1) := by decide +kernel
theorem dX12_whoCan_27 : decode cX12_whoCan 27 = .ok (.iaload, 1) := by decide +kernel
theorem dX12_whoCan_28 : decode cX12_whoCan 28 = .ok (.aload_n 0, 1) := by decide +kernel
theorem dX12_whoCan_29 : decode cX12_whoCan 29 = .ok (.getfield 44, 3) := by decide +kernel
theorem dX12_whoCan_32 : decode cX12_whoCan 32 = .ok (.iload_n 2, 1) := by decide +kernel
theorem dX12_whoCan_33 : decode cX12_whoCan 33 = .ok (.iaload, 1) := by decide +kernel
theorem dX12_whoCan_34 : decode cX12_whoCan 34 = .ok (.invokevirtual 146, 3) := by decide +kernel
theorem dX12_whoCan_37 : decode cX12_whoCan 37 = .ok (.istore_n 3, 1) := by decide +kernel
theorem dX12_whoCan_38 : decode cX12_whoCan 38 = .ok (.iload_n 1, 1) := by decide +kernel
theorem dX12_whoCan_39 : decode cX12_whoCan 39 = .ok (.aload_n 0, 1) := by decide +kernel
theorem dX12_whoCan_40 : decode cX12_whoCan 40 = .ok (.getfield 47, 3) := by decide +kernel
theorem dX12_whoCan_43 : decode cX12_whoCan 43 = .ok (.iload_n 2, 1) := by decide +kernel
theorem dX12_whoCan_44 : decode cX12_whoCan 44 = .ok (.iaload, 1) := by decide +kernel
theorem dX12_whoCan_45 : decode cX12_whoCan 45 = .ok (.iconst 1, 1) := by decide +kernel
theorem dX12_whoCan_46 : decode cX12_whoCan 46 = .ok (.if_icmp .ne 7, 3) := by decide +kernel
theorem dX12_whoCan_49 : decode cX12_whoCan 49 = .ok (.iload_n 3, 1) := by decide +kernel
theorem dX12_whoCan_50 : decode cX12_whoCan 50 = .ok (.goto 6, 3) := by decide +kernel
theorem dX12_whoCan_53 : decode cX12_whoCan 53 = .ok (.iload_n 3, 1) := by decide +kernel
theorem dX12_whoCan_54 : decode cX12_whoCan 54 = .ok (.iconst (-1), 1) := by decide +kernel
theorem dX12_whoCan_55 : decode cX12_whoCan 55 = .ok (.ixor, 1) := by decide +kernel
theorem dX12_whoCan_56 : decode cX12_whoCan 56 = .ok (.iand, 1) := by decide +kernel
theorem dX12_whoCan_57 : decode cX12_whoCan 57 = .ok (.istore_n 1, 1) := by decide +kernel
theorem dX12_whoCan_58 : decode cX12_whoCan 58 = .ok (.iinc 2 1, 3) := by decide +kernel
theorem dX12_whoCan_61 : decode cX12_whoCan 61 = .ok (.goto (-48), 3) := by decide +kernel
theorem dX12_whoCan_64 : decode cX12_whoCan 64 = .ok (.iload_n 1, 1) := by decide +kernel
theorem dX12_whoCan_65 : decode cX12_whoCan 65 = .ok (.ireturn, 1) := by decide +kernel
theorem dX12_who_0 : decode cX12_who 0 = .ok (.aload_n 0, 1) := by decide +kernel
theorem dX12_who_1 : decode cX12_who 1 = .ok (.iconst 0, 1) := by decide +kernel
theorem dX12_who_2 : decode cX12_who 2 = .ok (.putfield 65, 3) := by decide +kernel
theorem dX12_who_5 : decode cX12_who 5 = .ok (.aload_n 0, 1) := by decide +kernel
theorem dX12_who_6 : decode cX12_who 6 = .ok (.invokevirtual 196, 3) := by decide +kernel
theorem dX12_who_9 : decode cX12_who 9 = .ok (.ireturn, 1) := by decide +kernel
theorem dX12_look_0 : decode cX12_look 0 = .ok (.aload_n 0, 1) := by decide +kernel
theorem dX12_look_1 : decode cX12_look 1 = .ok (.iconst 0, 1) := by decide +kernel
theorem dX12_look_2 : decode cX12_look 2 = .ok (.putfield 65, 3) := by decide +kernel
theorem dX12_look_5 : decode cX12_look 5 = .ok (.aload_n 0, 1) := by decide +kernel
theorem dX12_look_6 : decode cX12_look 6 = .ok (.iload_n 1, 1) := by decide +kernel
theorem dX12_look_7 : decode cX12_look 7 = .ok (.invokevirtual 143, 3) := by decide +kernel
theorem dX12_look_10 : decode cX12_look 10 = .ok (.ifCond .ne 5, 3) := by decide +kernel
theorem dX12_look_13 : decode cX12_look 13 = .ok (.iconst (-1), 1) := by decide +kernel
theorem dX12_look_14 : decode cX12_look 14 = .ok (.ireturn, 1) := by decide +kernel
theorem dX12_look_15 : decode cX12_look 15 = .ok (.aload_n 0, 1) := by decide +kernel
theorem dX12_look_16 : decode cX12_look 16 = .ok (.invokevirtual 196, 3) := by decide +kernel
theorem dX12_look_19 : decode cX12_look 19 = .ok (.invokestatic 187, 3) := by decide +kernel
theorem dX12_look_22 : decode cX12_look 22 = .ok (.istore_n 2, 1) := by decide +kernel
theorem dX12_look_23 : decode cX12_look 23 = .ok (.bipush (-9), 2) := by decide +kernel
theorem dX12_look_25 : decode cX12_look 25 = .ok (.istore_n 3, 1) := by decide +kernel
theorem dX12_look_26 : decode cX12_look 26 = .ok (.bipush 99, 2) := by decide +kernel
theorem dX12_look_28 : decode cX12_look 28 = .ok (.istore 4, 2) := by decide +kernel
theorem dX12_look_30 : decode cX12_look 30 = .ok (.iconst 0, 1) := by decide +kernel
theorem dX12_look_31 : decode cX12_look 31 = .ok (.istore 5, 2) := by decide +kernel
theorem dX12_look_33 : decode cX12_look 33 = .ok (.iload 5, 2) := by decide +kernel
theorem dX12_look_35 : decode cX12_look 35 = .ok (.aload_n 0, 1) := by decide +kernel
theorem dX12_look_36 : decode cX12_look 36 = .ok (.getfield 13, 3) := by decide +kernel
theorem dX12_look_39 : decode cX12_look 39 = .ok (.iconst 0, 1) := by decide +kernel
theorem dX12_look_40 : decode cX12_look 40 = .ok (.iaload, 1) := by decide +kernel
theorem dX12_look_41 : decode cX12_look 41 = .ok (.if_icmp .ge 81, 3) := by decide +kernel
theorem dX12_look_44 : decode cX12_look 44 = .ok (.iload_n 2, 1) := by decide +kernel
theorem dX12_look_45 : decode cX12_look 45 = .ok (.iconst 1, 1) := by decide +kernel
theorem dX12_look_46 : decode cX12_look 46 = .ok (.if_icmp .le 76, 3) := by decide +kernel
theorem dX12_look_49 : decode cX12_look 49 = .ok (.aload_n 0, 1) := by decide +kernel
theorem dX12_look_50 : decode cX12_look 50 = .ok (.invokevirtual 196, 3) := by decide +kernel
theorem dX12_look_53 : decode cX12_look 53 = .ok (.aload_n 0, 1) := by decide +kernel
theorem dX12_look_54 : decode cX12_look 54 = .ok (.iload_n 1, 1) := by decide +kernel
theorem dX12_look_55 : decode cX12_look 55 = .ok (.iload 5, 2) := by decide +kernel
theorem dX12_look_57 : decode cX12_look 57 = .ok (.invokevirtual 146, 3) := by decide +kernel
theorem dX12_look_60 : decode cX12_look 60 = .ok (.iand, 1) := by decide +kernel
theorem dX12_look_61 : decode cX12_look 61 = .ok (.invokestatic 187, 3) := by decide +kernel
theorem dX12_look_64 : decode cX12_look 64 = .ok (.istore 6, 2) := by decide +kernel
theorem dX12_look_66 : decode cX12_look 66 = .ok (.iload 6, 2) := by decide +kernel
theorem dX12_look_68 : decode cX12_look 68 = .ok (.iload_n 2, 1) := by decide +kernel
theorem dX12_look_69 : decode cX12_look 69 = .ok (.iload 6, 2) := by decide +kernel
theorem dX12_look_71 : decode cX12_look 71 = .ok (.isub, 1) := by decide +kernel
theorem dX12_look_72 : decode cX12_look 72 = .ok (.if_icmp .le 8, 3) := by decide +kernel
theorem dX12_look_75 : decode cX12_look 75 = .ok (.iload 6, 2) := by decide +kernel
theorem dX12_look_77 : decode cX12_look 77 = .ok (.goto 7, 3) := by decide +kernel
theorem dX12_look_80 : decode cX12_look 80 = .ok (.iload_n 2, 1) := by decide +kernel
theorem dX12_look_81 : decode cX12_look 81 = .ok (.iload 6, 2) := by decide +kernel
theorem dX12_look_83 : decode cX12_look 83 = .ok (.isub, 1) := by decide +kernel
theorem dX12_look_84 : decode cX12_look 84 = .ok (.istore 7, 2) := by decide +kernel
theorem dX12_look_86 : decode cX12_look 86 = .ok (.iload 7, 2) := by decide +kernel
theorem dX12_look_88 : decode cX12_look 88 = .ok (.iload 4, 2) := by decide +kernel
theorem dX12_look_90 : decode cX12_look 90 = .ok (.if_icmp .ge 8, 3) := by decide +kernel
theorem dX12_look_93 : decode cX12_look 93 = .ok (.iload 5, 2) := by decide +kernel
theorem dX12_look_95 : decode cX12_look 95 = .ok (.goto 4, 3) := by decide +kernel
theorem dX12_look_98 : decode cX12_look 98 = .ok (.iload_n 3, 1) := by decide +kernel
theorem dX12_look_99 : decode cX12_look 99 = .ok (.istore_n 3, 1) := by decide +kernel
theorem dX12_look_100 : decode cX12_look 100 = .ok (.iload 7, 2) := by decide +kernel
theorem dX12_look_102 : decode cX12_look 102 = .ok (.iload 4, 2) := by decide +kernel
theorem dX12_look_104 : decode cX12_look 104 = .ok (.if_icmp .ge 8, 3) := by decide +kernel
theorem dX12_look_107 : decode cX12_look 107 = .ok (.iload 7, 2) := by decide +kernel
theorem dX12_look_109 : decode cX12_look 109 = .ok (.goto 5, 3) := by decide +kernel
theorem dX12_look_112 : decode cX12_look 112 = .ok (.iload 4, 2) := by decide +kernel
theorem dX12_look_114 : decode cX12_look 114 = .ok (.istore 4, 2) := by decide +kernel
theorem dX12_look_116 : decode cX12_look 116 = .ok (.iinc 5 1, 3) := by decide +kernel
theorem dX12_look_119 : decode cX12_look 119 = .ok (.goto (-86), 3) := by decide +kernel
theorem dX12_look_122 : decode cX12_look 122 = .ok (.iload_n 3, 1) := by decide +kernel
theorem dX12_look_123 : decode cX12_look 123 = .ok (.ireturn, 1) := by decide +kernel
theorem dX12_rate_0 : decode cX12_rate 0 = .ok (.aload_n 0, 1) := by decide +kernel
theorem dX12_rate_1 : decode cX12_rate 1 = .ok (.iconst 0, 1) := by decide +kernel
theorem dX12_rate_2 : decode cX12_rate 2 = .ok (.putfield 65, 3) := by decide +kernel
theorem dX12_rate_5 : decode cX12_rate 5 = .ok (.iload_n 1, 1) := by decide +kernel
theorem dX12_rate_6 : decode cX12_rate 6 = .ok (.iconst 0, 1) := by decide +kernel
theorem dX12_rate_7 : decode cX12_rate 7 = .ok (.iconst 5, 1) := by decide +kernel
theorem dX12_rate_8 : decode cX12_rate 8 = .ok (.invokestatic 69, 3) := by decide +kernel
theorem dX12_rate_11 : decode cX12_rate 11 = .ok (.ifCond .eq 11, 3) := by decide +kernel
theorem dX12_rate_14 : decode cX12_rate 14 = .ok (.aload_n 0, 1) := by decide +kernel
theorem dX12_rate_15 : decode cX12_rate 15 = .ok (.iload_n 2, 1) := by decide +kernel
theorem dX12_rate_16 : decode cX12_rate 16 = .ok (.invokevirtual 134, 3) := by decide +kernel
theorem dX12_rate_19 : decode cX12_rate 19 = .ok (.ifCond .ne 6, 3) := by decide +kernel
theorem dX12_rate_22 : decode cX12_rate 22 = .ok (.ldc 199, 2) := by decide +kernel
theorem dX12_rate_24 : decode cX12_rate 24 = .ok (.ireturn, 1) := by decide +kernel
theorem dX12_rate_25 : decode cX12_rate 25 = .ok (.aload_n 0, 1) := by decide +kernel
theorem dX12_rate_26 : decode cX12_rate 26 = .ok (.iload_n 2, 1) := by decide +kernel
theorem dX12_rate_27 : decode cX12_rate 27 = .ok (.invokevirtual 137, 3) := by decide +kernel
theorem dX12_rate_30 : decode cX12_rate 30 = .ok (.invokestatic 187, 3) := by decide +kernel
theorem dX12_rate_33 : decode cX12_rate 33 = .ok (.istore_n 3, 1) := by decide +kernel
theorem dX12_rate_34 : decode cX12_rate 34 = .ok (.iload_n 3, 1) := by decide +kernel
theorem dX12_rate_35 : decode cX12_rate 35 = .ok (.aload_n 0, 1) := by decide +kernel
theorem dX12_rate_36 : decode cX12_rate 36 = .ok (.getfield 16, 3) := by decide +kernel
theorem dX12_rate_39 : decode cX12_rate 39 = .ok (.iload_n 2, 1) := by decide +kernel
theorem dX12_rate_40 : decode cX12_rate 40 = .ok (.iaload, 1) := by decide +kernel
theorem dX12_rate_41 : decode cX12_rate 41 = .ok (.iadd, 1) := by decide +kernel
theorem dX12_rate_42 : decode cX12_rate 42 = .ok (.istore 4, 2) := by decide +kernel
theorem dX12_rate_44 : decode cX12_rate 44 = .ok (.iload_n 3, 1) := by decide +kernel
theorem dX12_rate_45 : decode cX12_rate 45 = .ok (.aload_n 0, 1) := by decide +kernel
theorem dX12_rate_46 : decode cX12_rate 46 = .ok (.iload_n 2, 1) := by decide +kernel
theorem dX12_rate_47 : decode cX12_rate 47 = .ok (.invokevirtual 140, 3) := by decide +kernel
theorem dX12_rate_50 : decode cX12_rate 50 = .ok (.invokestatic 187, 3) := by decide +kernel
theorem dX12_rate_53 : decode cX12_rate 53 = .ok (.isub, 1) := by decide +kernel
theorem dX12_rate_54 : decode cX12_rate 54 = .ok (.istore 5, 2) := by decide +kernel
theorem dX12_rate_56 : decode cX12_rate 56 = .ok (.aload_n 0, 1) := by decide +kernel
theorem dX12_rate_57 : decode cX12_rate 57 = .ok (.dup, 1) := by decide +kernel
theorem dX12_rate_58 : decode cX12_rate 58 = .ok (.getfield 200, 3) := by decide +kernel
theorem dX12_rate_61 : decode cX12_rate 61 = .ok (.iload_n 1, 1) := by decide +kernel
theorem dX12_rate_62 : decode cX12_rate 62 = .ok (.ifCond .ne 7, 3) := by decide +kernel
theorem dX12_rate_65 : decode cX12_rate 65 = .ok (.lconst 1, 1) := by decide +kernel
theorem dX12_rate_66 : decode cX12_rate 66 = .ok (.goto 50, 3) := by decide +kernel
theorem dX12_rate_69 : decode cX12_rate 69 = .ok (.iload_n 1, 1) := by decide +kernel
theorem dX12_rate_70 : decode cX12_rate 70 = .ok (.iconst 1, 1) := by decide +kernel
theorem dX12_rate_71 : decode cX12_rate 71 = .ok (.if_icmp .ne 9, 3) := by decide +kernel
theorem dX12_rate_74 : decode cX12_rate 74 = .ok (.ldc2_w 204, 3) := by decide +kernel
theorem dX12_rate_77 : decode cX12_rate 77 = .ok (.goto 39, 3) := by decide +kernel
theorem dX12_rate_80 : decode cX12_rate 80 = .ok (.iload_n 1, 1) := by decide +kernel
theorem dX12_rate_81 : decode cX12_rate 81 = .ok (.iconst 2, 1) := by decide +kernel
theorem dX12_rate_82 : decode cX12_rate 82 = .ok (.if_icmp .ne 9, 3) := by decide +kernel
theorem dX12_rate_85 : decode cX12_rate 85 = .ok (.ldc2_w 206, 3) := by decide +kernel
theorem dX12_rate_88 : decode cX12_rate 88 = .ok (.goto 28, 3) := by decide +kernel
theorem dX12_rate_91 : decode cX12_rate 91 = .ok (.iload_n 1, 1) := by decide +kernel
theorem dX12_rate_92 : decode cX12_rate 92 = .ok (.iconst 3, 1) := by decide +kernel
theorem dX12_rate_93 : decode cX12_rate 93 = .ok (.if_icmp .ne 9, 3) := by decide +kernel
theorem dX12_rate_96 : decode cX12_rate 96 = .ok (.ldc2_w 208, 3) := by decide +kernel
theorem dX12_rate_99 : decode cX12_rate 99 = .ok (.goto 17, 3) := by decide +kernel
theorem dX12_rate_102 : decode cX12_rate 102 = .ok (.iload_n 1, 1) := by decide +kernel
theorem dX12_rate_103 : decode cX12_rate 103 = .ok (.iconst 4, 1) := by decide +kernel
theorem dX12_rate_104 : decode cX12_rate 104 = .ok (.if_icmp .ne 9, 3) := by decide +kernel
theorem dX12_rate_107 : decode cX12_rate 107 = .ok (.ldc2_w 210, 3) := by decide +kernel
theorem dX12_rate_110 : decode cX12_rate 110 = .ok (.goto 6, 3) := by decide +kernel
theorem dX12_rate_113 : decode cX12_rate 113 = .ok (.ldc2_w 212, 3) := by decide +kernel
theorem dX12_rate_116 : decode cX12_rate 116 = .ok (.ladd, 1) := by decide +kernel
theorem dX12_rate_117 : decode cX12_rate 117 = .ok (.putfield 200, 3) := by decide +kernel
theorem dX12_rate_120 : decode cX12_rate 120 = .ok (.iload_n 1, 1) := by decide +kernel
theorem dX12_rate_121 : decode cX12_rate 121 = .ok (.ifCond .ne 7, 3) := by decide +kernel
theorem dX12_rate_124 : decode cX12_rate 124 = .ok (.iload_n 3, 1) := by decide +kernel
theorem dX12_rate_125 : decode cX12_rate 125 = .ok (.goto 55, 3) := by decide +kernel
theorem dX12_rate_128 : decode cX12_rate 128 = .ok (.iload_n 1, 1) := by decide +kernel
theorem dX12_rate_129 : decode cX12_rate 129 = .ok (.iconst 1, 1) := by decide +kernel
theorem dX12_rate_130 : decode cX12_rate 130 = .ok (.if_icmp .ne 8, 3) := by decide +kernel
theorem dX12_rate_133 : decode cX12_rate 133 = .ok (.iload 4, 2) := by decide +kernel
theorem dX12_rate_135 : decode cX12_rate 135 = .ok (.goto 45, 3) := by decide +kernel
theorem dX12_rate_138 : decode cX12_rate 138 = .ok (.iload_n 1, 1) := by decide +kernel
theorem dX12_rate_139 : decode cX12_rate 139 = .ok (.iconst 2, 1) := by decide +kernel
theorem dX12_rate_140 : decode cX12_rate 140 = .ok (.if_icmp .ne 8, 3) := by decide +kernel
theorem dX12_rate_143 : decode cX12_rate 143 = .ok (.iload 5, 2) := by decide +kernel
theorem dX12_rate_145 : decode cX12_rate 145 = .ok (.goto 35, 3) := by decide +kernel
theorem dX12_rate_148 : decode cX12_rate 148 = .ok (.iload_n 1, 1) := by decide +kernel
theorem dX12_rate_149 : decode cX12_rate 149 = .ok (.iconst 3, 1) := by decide +kernel
theorem dX12_rate_150 : decode cX12_rate 150 = .ok (.if_icmp .ne 10, 3) := by decide +kernel
theorem dX12_rate_153 : decode cX12_rate 153 = .ok (.iconst 2, 1) := by decide +kernel
theorem dX12_rate_154 : decode cX12_rate 154 = .ok (.iload 4, 2) := by decide +kernel
theorem dX12_rate_156 : decode cX12_rate 156 = .ok (.imul, 1) := by decide +kernel
theorem dX12_rate_157 : decode cX12_rate 157 = .ok (.goto 23, 3) := by decide +kernel
theorem dX12_rate_160 : decode cX12_rate 160 = .ok (.iload_n 1, 1) := by decide +kernel
theorem dX12_rate_161 : decode cX12_rate 161 = .ok (.iconst 4, 1) := by decide +kernel
theorem dX12_rate_162 : decode cX12_rate 162 = .ok (.if_icmp .ne 10, 3) := by decide +kernel
theorem dX12_rate_165 : decode cX12_rate 165 = .ok (.iload 5, 2) := by decide +kernel
theorem dX12_rate_167 : decode cX12_rate 167 = .ok (.iload_n 2, 1) := by decide +kernel
theorem dX12_rate_168 : decode cX12_rate 168 = .ok (.iadd, 1) := by decide +kernel
theorem dX12_rate_169 : decode cX12_rate 169 = .ok (.goto 11, 3) := by decide +kernel
theorem dX12_rate_172 : decode cX12_rate 172 = .ok (.iload_n 3, 1) := by decide +kernel
theorem dX12_rate_173 : decode cX12_rate 173 = .ok (.aload_n 0, 1) := by decide +kernel
theorem dX12_rate_174 : decode cX12_rate 174 = .ok (.getfield 28, 3) := by decide +kernel
theorem dX12_rate_177 : decode cX12_rate 177 = .ok (.iconst 0, 1) := by decide +kernel
theorem dX12_rate_178 : decode cX12_rate 178 = .ok (.iaload, 1) := by decide +kernel
theorem dX12_rate_179 : decode cX12_rate 179 = .ok (.iadd, 1) := by decide +kernel
theorem dX12_rate_180 : decode cX12_rate 180 = .ok (.ireturn, 1) := by decide +kernel
theorem dX12_keep_0 : decode cX12_keep 0 = .ok (.aload_n 0, 1) := by decide +kernel
theorem dX12_keep_1 : decode cX12_keep 1 = .ok (.iconst 0, 1) := by decide +kernel
theorem dX12_keep_2 : decode cX12_keep 2 = .ok (.putfield 65, 3) := by decide +kernel
theorem dX12_keep_5 : decode cX12_keep 5 = .ok (.iload_n 1, 1) := by decide +kernel
theorem dX12_keep_6 : decode cX12_keep 6 = .ok (.iconst 0, 1) := by decide +kernel
theorem dX12_keep_7 : decode cX12_keep 7 = .ok (.iconst 1, 1) := by decide +kernel
theorem dX12_keep_8 : decode cX12_keep 8 = .ok (.invokestatic 69, 3) := by decide +kernel
theorem dX12_keep_11 : decode cX12_keep 11 = .ok (.ifCond .ne 5, 3) := by decide +kernel
theorem dX12_keep_14 : decode cX12_keep 14 = .ok (.iconst (-1), 1) := by decide +kernel
theorem dX12_keep_15 : decode cX12_keep 15 = .ok (.ireturn, 1) := by decide +kernel
theorem dX12_keep_16 : decode cX12_keep 16 = .ok (.iconst 0, 1) := by decide +kernel
theorem dX12_keep_17 : decode cX12_keep 17 = .ok (.istore_n 2, 1) := by decide +kernel
theorem dX12_keep_18 : decode cX12_keep 18 = .ok (.iload_n 2, 1) := by decide +kernel
theorem dX12_keep_19 : decode cX12_keep 19 = .ok (.bipush 25, 2) := by decide +kernel
theorem dX12_keep_21 : decode cX12_keep 21 = .ok (.if_icmp .ge 26, 3) := by decide +kernel
theorem dX12_keep_24 : decode cX12_keep 24 = .ok (.aload_n 0, 1) := by decide +kernel
theorem dX12_keep_25 : decode cX12_keep 25 = .ok (.getfield 31, 3) := by decide +kernel
theorem dX12_keep_28 : decode cX12_keep 28 = .ok (.bipush 25, 2) := by decide +kernel
theorem dX12_keep_30 : decode cX12_keep 30 = .ok (.iload_n 1, 1) := by decide +kernel
theorem dX12_keep_31 : decode cX12_keep 31 = .ok (.imul, 1) := by decide +kernel
theorem dX12_keep_32 : decode cX12_keep 32 = .ok (.iload_n 2, 1) := by decide +kernel
theorem dX12_keep_33 : decode cX12_keep 33 = .ok (.iadd, 1) := by decide +kernel
theorem dX12_keep_34 : decode cX12_keep 34 = .ok (.aload_n 0, 1) := by decide +kernel
theorem dX12_keep_35 : decode cX12_keep 35 = .ok (.getfield 28, 3) := by decide +kernel
theorem dX12_keep_38 : decode cX12_keep 38 = .ok (.iload_n 2, 1) := by decide +kernel
theorem dX12_keep_39 : decode cX12_keep 39 = .ok (.iaload, 1) := by decide +kernel
theorem dX12_keep_40 : decode cX12_keep 40 = .ok (.iastore, 1) := by decide +kernel
theorem dX12_keep_41 : decode cX12_keep 41 = .ok (.iinc 2 1, 3) := by decide +kernel
theorem dX12_keep_44 : decode cX12_keep 44 = .ok (.goto (-26), 3) := by decide +kernel
theorem dX12_keep_47 : decode cX12_keep 47 = .ok (.aload_n 0, 1) := by decide +kernel
theorem dX12_keep_48 : decode cX12_keep 48 = .ok (.getfield 34, 3) := by decide +kernel
theorem dX12_keep_51 : decode cX12_keep 51 = .ok (.iload_n 1, 1) := by decide +kernel
theorem dX12_keep_52 : decode cX12_keep 52 = .ok (.iconst 1, 1) := by decide +kernel
theorem dX12_keep_53 : decode cX12_keep 53 = .ok (.bastore, 1) := by decide +kernel
theorem dX12_keep_54 : decode cX12_keep 54 = .ok (.aload_n 0, 1) := by decide +kernel
theorem dX12_keep_55 : decode cX12_keep 55 = .ok (.getfield 28, 3) := by decide +kernel
theorem dX12_keep_58 : decode cX12_keep 58 = .ok (.iconst 0, 1) := by decide +kernel
theorem dX12_keep_59 : decode cX12_keep 59 = .ok (.iaload, 1) := by decide +kernel
theorem dX12_keep_60 : decode cX12_keep 60 = .ok (.ireturn, 1) := by decide +kernel
theorem dX12_back_0 : decode cX12_back 0 = .ok (.aload_n 0, 1) := by decide +kernel
theorem dX12_back_1 : decode cX12_back 1 = .ok (.iconst 0, 1) := by decide +kernel
theorem dX12_back_2 : decode cX12_back 2 = .ok (.putfield 65, 3) := by decide +kernel
theorem dX12_back_5 : decode cX12_back 5 = .ok (.iload_n 1, 1) := by decide +kernel
theorem dX12_back_6 : decode cX12_back 6 = .ok (.iconst 0, 1) := by decide +kernel
theorem dX12_back_7 : decode cX12_back 7 = .ok (.iconst 1, 1) := by decide +kernel
theorem dX12_back_8 : decode cX12_back 8 = .ok (.invokestatic 69, 3) := by decide +kernel
theorem dX12_back_11 : decode cX12_back 11 = .ok (.ifCond .ne 5, 3) := by decide +kernel
theorem dX12_back_14 : decode cX12_back 14 = .ok (.iconst (-1), 1) := by decide +kernel
theorem dX12_back_15 : decode cX12_back 15 = .ok (.ireturn, 1) := by decide +kernel
theorem dX12_back_16 : decode cX12_back 16 = .ok (.aload_n 0, 1) := by decide +kernel
theorem dX12_back_17 : decode cX12_back 17 = .ok (.getfield 34, 3) := by decide +kernel
theorem dX12_back_20 : decode cX12_back 20 = .ok (.iload_n 1, 1) := by decide +kernel
theorem dX12_back_21 : decode cX12_back 21 = .ok (.baload, 1) := by decide +kernel
theorem dX12_back_22 : decode cX12_back 22 = .ok (.ifCond .ne 6, 3) := by decide +kernel
theorem dX12_back_25 : decode cX12_back 25 = .ok (.bipush (-2), 2) := by decide +kernel
theorem dX12_back_27 : decode cX12_back 27 = .ok (.ireturn, 1) := by decide +kernel
theorem dX12_back_28 : decode cX12_back 28 = .ok (.iconst 0, 1) := by decide +kernel
theorem dX12_back_29 : decode cX12_back 29 = .ok (.istore_n 2, 1) := by decide +kernel
theorem dX12_back_30 : decode cX12_back 30 = .ok (.iload_n 2, 1) := by decide +kernel
theorem dX12_back_31 : decode cX12_back 31 = .ok (.bipush 25, 2) := by decide +kernel
theorem dX12_back_33 : decode cX12_back 33 = .ok (.if_icmp .ge 26, 3) := by decide +kernel
theorem dX12_back_36 : decode cX12_back 36 = .ok (.aload_n 0, 1) := by decide +kernel
theorem dX12_back_37 : decode cX12_back 37 = .ok (.getfield 28, 3) := by decide +kernel
theorem dX12_back_40 : decode cX12_back 40 = .ok (.iload_n 2, 1) := by decide +kernel
theorem dX12_back_41 : decode cX12_back 41 = .ok (.aload_n 0, 1) := by decide +kernel
theorem dX12_back_42 : decode cX12_back 42 = .ok (.getfield 31, 3) := by decide +kernel
theorem dX12_back_45 : decode cX12_back 45 = .ok (.bipush 25, 2) := by decide +kernel
theorem dX12_back_47 : decode cX12_back 47 = .ok (.iload_n 1, 1) := by decide +kernel
theorem dX12_back_48 : decode cX12_back 48 = .ok (.imul, 1) := by decide +kernel
theorem dX12_back_49 : decode cX12_back 49 = .ok (.iload_n 2, 1) := by decide +kernel
theorem dX12_back_50 : decode cX12_back 50 = .ok (.iadd, 1) := by decide +kernel
theorem dX12_back_51 : decode cX12_back 51 = .ok (.iaload, 1) := by decide +kernel
theorem dX12_back_52 : decode cX12_back 52 = .ok (.iastore, 1) := by decide +kernel
theorem dX12_back_53 : decode cX12_back 53 = .ok (.iinc 2 1, 3) := by decide +kernel
theorem dX12_back_56 : decode cX12_back 56 = .ok (.goto (-26), 3) := by decide +kernel
theorem dX12_back_59 : decode cX12_back 59 = .ok (.aload_n 0, 1) := by decide +kernel
theorem dX12_back_60 : decode cX12_back 60 = .ok (.iconst 0, 1) := by decide +kernel
theorem dX12_back_61 : decode cX12_back 61 = .ok (.putfield 128, 3) := by decide +kernel
theorem dX12_back_64 : decode cX12_back 64 = .ok (.aload_n 0, 1) := by decide +kernel
theorem dX12_back_65 : decode cX12_back 65 = .ok (.getfield 28, 3) := by decide +kernel
theorem dX12_back_68 : decode cX12_back 68 = .ok (.iconst 0, 1) := by decide +kernel
theorem dX12_back_69 : decode cX12_back 69 = .ok (.iaload, 1) := by decide +kernel
theorem dX12_back_70 : decode cX12_back 70 = .ok (.ireturn, 1) := by decide +kernel
theorem dX12_count_0 : decode cX12_count 0 = .ok (.aload_n 0, 1) := by decide +kernel
theorem dX12_count_1 : decode cX12_count 1 = .ok (.iconst 0, 1) := by decide +kernel
theorem dX12_count_2 : decode cX12_count 2 = .ok (.putfield 65, 3) := by decide +kernel
theorem dX12_count_5 : decode cX12_count 5 = .ok (.iload_n 1, 1) := by decide +kernel
theorem dX12_count_6 : decode cX12_count 6 = .ok (.iconst 0, 1) := by decide +kernel
theorem dX12_count_7 : decode cX12_count 7 = .ok (.iconst 2, 1) := by decide +kernel
theorem dX12_count_8 : decode cX12_count 8 = .ok (.invokestatic 69, 3) := by decide +kernel
theorem dX12_count_11 : decode cX12_count 11 = .ok (.ifCond .eq 12, 3) := by decide +kernel
theorem dX12_count_14 : decode cX12_count 14 = .ok (.aload_n 0, 1) := by decide +kernel
theorem dX12_count_15 : decode cX12_count 15 = .ok (.getfield 13, 3) := by decide +kernel
theorem dX12_count_18 : decode cX12_count 18 = .ok (.iload_n 1, 1) := by decide +kernel
theorem dX12_count_19 : decode cX12_count 19 = .ok (.iaload, 1) := by decide +kernel
theorem dX12_count_20 : decode cX12_count 20 = .ok (.goto 28, 3) := by decide +kernel
theorem dX12_count_23 : decode cX12_count 23 = .ok (.iload_n 1, 1) := by decide +kernel
theorem dX12_count_24 : decode cX12_count 24 = .ok (.iconst 3, 1) := by decide +kernel
theorem dX12_count_25 : decode cX12_count 25 = .ok (.if_icmp .ne 10, 3) := by decide +kernel
theorem dX12_count_28 : decode cX12_count 28 = .ok (.aload_n 0, 1) := by decide +kernel
theorem dX12_count_29 : decode cX12_count 29 = .ok (.getfield 125, 3) := by decide +kernel
theorem dX12_count_32 : decode cX12_count 32 = .ok (.goto 16, 3) := by decide +kernel
theorem dX12_count_35 : decode cX12_count 35 = .ok (.iload_n 1, 1) := by decide +kernel
theorem dX12_count_36 : decode cX12_count 36 = .ok (.iconst 4, 1) := by decide +kernel
theorem dX12_count_37 : decode cX12_count 37 = .ok (.if_icmp .ne 10, 3) := by decide +kernel
theorem dX12_count_40 : decode cX12_count 40 = .ok (.aload_n 0, 1) := by decide +kernel
theorem dX12_count_41 : decode cX12_count 41 = .ok (.getfield 73, 3) := by decide +kernel
theorem dX12_count_44 : decode cX12_count 44 = .ok (.goto 4, 3) := by decide +kernel
theorem dX12_count_47 : decode cX12_count 47 = .ok (.iconst (-1), 1) := by decide +kernel
theorem dX12_count_48 : decode cX12_count 48 = .ok (.ireturn, 1) := by decide +kernel
theorem dX12_trace_0 : decode cX12_trace 0 = .ok (.aload_n 0, 1) := by decide +kernel
theorem dX12_trace_1 : decode cX12_trace 1 = .ok (.iconst 0, 1) := by decide +kernel
theorem dX12_trace_2 : decode cX12_trace 2 = .ok (.putfield 65, 3) := by decide +kernel
theorem dX12_trace_5 : decode cX12_trace 5 = .ok (.aload_n 0, 1) := by decide +kernel
theorem dX12_trace_6 : decode cX12_trace 6 = .ok (.getfield 200, 3) := by decide +kernel
theorem dX12_trace_9 : decode cX12_trace 9 = .ok (.lreturn, 1) := by decide +kernel
