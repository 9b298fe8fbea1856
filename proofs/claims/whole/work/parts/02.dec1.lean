theorem dX7_sheltering_46 : decode cX7_sheltering 46 = .ok (.iand, 1) := by decide +kernel
theorem dX7_sheltering_47 : decode cX7_sheltering 47 = .ok (.ifCond .ne 7, 3) := by decide +kernel
theorem dX7_sheltering_50 : decode cX7_sheltering 50 = .ok (.iconst 1, 1) := by decide +kernel
theorem dX7_sheltering_51 : decode cX7_sheltering 51 = .ok (.goto 4, 3) := by decide +kernel
theorem dX7_sheltering_54 : decode cX7_sheltering 54 = .ok (.iconst 0, 1) := by decide +kernel
theorem dX7_sheltering_55 : decode cX7_sheltering 55 = .ok (.istore 6, 2) := by decide +kernel
theorem dX7_sheltering_57 : decode cX7_sheltering 57 = .ok (.iload 6, 2) := by decide +kernel
theorem dX7_sheltering_59 : decode cX7_sheltering 59 = .ok (.ifCond .eq 41, 3) := by decide +kernel
theorem dX7_sheltering_62 : decode cX7_sheltering 62 = .ok (.aload_n 0, 1) := by decide +kernel
theorem dX7_sheltering_63 : decode cX7_sheltering 63 = .ok (.getfield 40, 3) := by decide +kernel
theorem dX7_sheltering_66 : decode cX7_sheltering 66 = .ok (.iload 5, 2) := by decide +kernel
theorem dX7_sheltering_68 : decode cX7_sheltering 68 = .ok (.iaload, 1) := by decide +kernel
theorem dX7_sheltering_69 : decode cX7_sheltering 69 = .ok (.aload_n 0, 1) := by decide +kernel
theorem dX7_sheltering_70 : decode cX7_sheltering 70 = .ok (.getfield 15, 3) := by decide +kernel
theorem dX7_sheltering_73 : decode cX7_sheltering 73 = .ok (.iload_n 1, 1) := by decide +kernel
theorem dX7_sheltering_74 : decode cX7_sheltering 74 = .ok (.iaload, 1) := by decide +kernel
theorem dX7_sheltering_75 : decode cX7_sheltering 75 = .ok (.isub, 1) := by decide +kernel
theorem dX7_sheltering_76 : decode cX7_sheltering 76 = .ok (.aload_n 0, 1) := by decide +kernel
theorem dX7_sheltering_77 : decode cX7_sheltering 77 = .ok (.getfield 43, 3) := by decide +kernel
theorem dX7_sheltering_80 : decode cX7_sheltering 80 = .ok (.iload 5, 2) := by decide +kernel
theorem dX7_sheltering_82 : decode cX7_sheltering 82 = .ok (.iaload, 1) := by decide +kernel
theorem dX7_sheltering_83 : decode cX7_sheltering 83 = .ok (.aload_n 0, 1) := by decide +kernel
theorem dX7_sheltering_84 : decode cX7_sheltering 84 = .ok (.getfield 19, 3) := by decide +kernel
theorem dX7_sheltering_87 : decode cX7_sheltering 87 = .ok (.iload_n 1, 1) := by decide +kernel
theorem dX7_sheltering_88 : decode cX7_sheltering 88 = .ok (.iaload, 1) := by decide +kernel
theorem dX7_sheltering_89 : decode cX7_sheltering 89 = .ok (.isub, 1) := by decide +kernel
theorem dX7_sheltering_90 : decode cX7_sheltering 90 = .ok (.iload_n 2, 1) := by decide +kernel
theorem dX7_sheltering_91 : decode cX7_sheltering 91 = .ok (.invokestatic 69, 3) := by decide +kernel
theorem dX7_sheltering_94 : decode cX7_sheltering 94 = .ok (.ifCond .eq 6, 3) := by decide +kernel
theorem dX7_sheltering_97 : decode cX7_sheltering 97 = .ok (.iinc 4 1, 3) := by decide +kernel
theorem dX7_sheltering_100 : decode cX7_sheltering 100 = .ok (.iinc 5 1, 3) := by decide +kernel
theorem dX7_sheltering_103 : decode cX7_sheltering 103 = .ok (.goto (-78), 3) := by decide +kernel
theorem dX7_sheltering_106 : decode cX7_sheltering 106 = .ok (.iload 4, 2) := by decide +kernel
theorem dX7_sheltering_108 : decode cX7_sheltering 108 = .ok (.ireturn, 1) := by decide +kernel
theorem dX7_isAhead_0 : decode cX7_isAhead 0 = .ok (.iconst 1, 1) := by decide +kernel
theorem dX7_isAhead_1 : decode cX7_isAhead 1 = .ok (.istore_n 3, 1) := by decide +kernel
theorem dX7_isAhead_2 : decode cX7_isAhead 2 = .ok (.iload_n 3, 1) := by decide +kernel
theorem dX7_isAhead_3 : decode cX7_isAhead 3 = .ok (.iconst 3, 1) := by decide +kernel
theorem dX7_isAhead_4 : decode cX7_isAhead 4 = .ok (.if_icmp .gt 39, 3) := by decide +kernel
theorem dX7_isAhead_7 : decode cX7_isAhead 7 = .ok (.iload_n 0, 1) := by decide +kernel
theorem dX7_isAhead_8 : decode cX7_isAhead 8 = .ok (.iload_n 3, 1) := by decide +kernel
theorem dX7_isAhead_9 : decode cX7_isAhead 9 = .ok (.getstatic 73, 3) := by decide +kernel
theorem dX7_isAhead_12 : decode cX7_isAhead 12 = .ok (.iload_n 2, 1) := by decide +kernel
theorem dX7_isAhead_13 : decode cX7_isAhead 13 = .ok (.bipush 7, 2) := by decide +kernel
theorem dX7_isAhead_15 : decode cX7_isAhead 15 = .ok (.iand, 1) := by decide +kernel
theorem dX7_isAhead_16 : decode cX7_isAhead 16 = .ok (.iaload, 1) := by decide +kernel
theorem dX7_isAhead_17 : decode cX7_isAhead 17 = .ok (.imul, 1) := by decide +kernel
theorem dX7_isAhead_18 : decode cX7_isAhead 18 = .ok (.if_icmp .ne 19, 3) := by decide +kernel
theorem dX7_isAhead_21 : decode cX7_isAhead 21 = .ok (.iload_n 1, 1) := by decide +kernel
theorem dX7_isAhead_22 : decode cX7_isAhead 22 = .ok (.iload_n 3, 1) := by decide +kernel
theorem dX7_isAhead_23 : decode cX7_isAhead 23 = .ok (.getstatic 76, 3) := by decide +kernel
theorem dX7_isAhead_26 : decode cX7_isAhead 26 = .ok (.iload_n 2, 1) := by decide +kernel
theorem dX7_isAhead_27 : decode cX7_isAhead 27 = .ok (.bipush 7, 2) := by decide +kernel
theorem dX7_isAhead_29 : decode cX7_isAhead 29 = .ok (.iand, 1) := by decide +kernel
theorem dX7_isAhead_30 : decode cX7_isAhead 30 = .ok (.iaload, 1) := by decide +kernel
theorem dX7_isAhead_31 : decode cX7_isAhead 31 = .ok (.imul, 1) := by decide +kernel
theorem dX7_isAhead_32 : decode cX7_isAhead 32 = .ok (.if_icmp .ne 5, 3) := by decide +kernel
theorem dX7_isAhead_35 : decode cX7_isAhead 35 = .ok (.iconst 1, 1) := by decide +kernel
theorem dX7_isAhead_36 : decode cX7_isAhead 36 = .ok (.ireturn, 1) := by decide +kernel
theorem dX7_isAhead_37 : decode cX7_isAhead 37 = .ok (.iinc 3 1, 3) := by decide +kernel
theorem dX7_isAhead_40 : decode cX7_isAhead 40 = .ok (.goto (-38), 3) := by decide +kernel
theorem dX7_isAhead_43 : decode cX7_isAhead 43 = .ok (.iconst 0, 1) := by decide +kernel
theorem dX7_isAhead_44 : decode cX7_isAhead 44 = .ok (.ireturn, 1) := by decide +kernel
theorem dX8_init_0 : decode cX8_init 0 = .ok (.aload_n 0, 1) := by decide +kernel
theorem dX8_init_1 : decode cX8_init 1 = .ok (.invokespecial 3, 3) := by decide +kernel
theorem dX8_init_4 : decode cX8_init 4 = .ok (.aload_n 0, 1) := by decide +kernel
theorem dX8_init_5 : decode cX8_init 5 = .ok (.iconst 0, 1) := by decide +kernel
theorem dX8_init_6 : decode cX8_init 6 = .ok (.putfield 9, 3) := by decide +kernel
theorem dX8_init_9 : decode cX8_init 9 = .ok (.aload_n 0, 1) := by decide +kernel
theorem dX8_init_10 : decode cX8_init 10 = .ok (.aload_n 1, 1) := by decide +kernel
theorem dX8_init_11 : decode cX8_init 11 = .ok (.putfield 15, 3) := by decide +kernel
theorem dX8_init_14 : decode cX8_init 14 = .ok (.return_, 1) := by decide +kernel
theorem dX8_reads_0 : decode cX8_reads 0 = .ok (.aload_n 1, 1) := by decide +kernel
theorem dX8_reads_1 : decode cX8_reads 1 = .ok (.invokevirtual 19, 3) := by decide +kernel
theorem dX8_reads_4 : decode cX8_reads 4 = .ok (.iconst 0, 1) := by decide +kernel
theorem dX8_reads_5 : decode cX8_reads 5 = .ok (.istore_n 2, 1) := by decide +kernel
theorem dX8_reads_6 : decode cX8_reads 6 = .ok (.iload_n 2, 1) := by decide +kernel
theorem dX8_reads_7 : decode cX8_reads 7 = .ok (.bipush 40, 2) := by decide +kernel
theorem dX8_reads_9 : decode cX8_reads 9 = .ok (.if_icmp .gt 82, 3) := by decide +kernel
theorem dX8_reads_12 : decode cX8_reads 12 = .ok (.aload_n 0, 1) := by decide +kernel
theorem dX8_reads_13 : decode cX8_reads 13 = .ok (.aload_n 1, 1) := by decide +kernel
theorem dX8_reads_14 : decode cX8_reads 14 = .ok (.iload_n 2, 1) := by decide +kernel
theorem dX8_reads_15 : decode cX8_reads 15 = .ok (.invokevirtual 24, 3) := by decide +kernel
theorem dX8_reads_18 : decode cX8_reads 18 = .ok (.ifCond .ne 5, 3) := by decide +kernel
theorem dX8_reads_21 : decode cX8_reads 21 = .ok (.iconst 0, 1) := by decide +kernel
theorem dX8_reads_22 : decode cX8_reads 22 = .ok (.ireturn, 1) := by decide +kernel
theorem dX8_reads_23 : decode cX8_reads 23 = .ok (.aload_n 0, 1) := by decide +kernel
theorem dX8_reads_24 : decode cX8_reads 24 = .ok (.getfield 15, 3) := by decide +kernel
theorem dX8_reads_27 : decode cX8_reads 27 = .ok (.invokevirtual 28, 3) := by decide +kernel
theorem dX8_reads_30 : decode cX8_reads 30 = .ok (.iconst 1, 1) := by decide +kernel
theorem dX8_reads_31 : decode cX8_reads 31 = .ok (.if_icmp .ne 27, 3) := by decide +kernel
theorem dX8_reads_34 : decode cX8_reads 34 = .ok (.aload_n 1, 1) := by decide +kernel
theorem dX8_reads_35 : decode cX8_reads 35 = .ok (.getfield 34, 3) := by decide +kernel
theorem dX8_reads_38 : decode cX8_reads 38 = .ok (.ifCond .gt 14, 3) := by decide +kernel
theorem dX8_reads_41 : decode cX8_reads 41 = .ok (.aload_n 0, 1) := by decide +kernel
theorem dX8_reads_42 : decode cX8_reads 42 = .ok (.getfield 15, 3) := by decide +kernel
theorem dX8_reads_45 : decode cX8_reads 45 = .ok (.iconst 0, 1) := by decide +kernel
theorem dX8_reads_46 : decode cX8_reads 46 = .ok (.invokevirtual 37, 3) := by decide +kernel
theorem dX8_reads_49 : decode cX8_reads 49 = .ok (.ifCond .eq 7, 3) := by decide +kernel
theorem dX8_reads_52 : decode cX8_reads 52 = .ok (.iconst 1, 1) := by decide +kernel
theorem dX8_reads_53 : decode cX8_reads 53 = .ok (.goto 4, 3) := by decide +kernel
theorem dX8_reads_56 : decode cX8_reads 56 = .ok (.iconst 0, 1) := by decide +kernel
theorem dX8_reads_57 : decode cX8_reads 57 = .ok (.ireturn, 1) := by decide +kernel
theorem dX8_reads_58 : decode cX8_reads 58 = .ok (.aload_n 0, 1) := by decide +kernel
theorem dX8_reads_59 : decode cX8_reads 59 = .ok (.getfield 15, 3) := by decide +kernel
theorem dX8_reads_62 : decode cX8_reads 62 = .ok (.invokevirtual 28, 3) := by decide +kernel
theorem dX8_reads_65 : decode cX8_reads 65 = .ok (.iconst 4, 1) := by decide +kernel
theorem dX8_reads_66 : decode cX8_reads 66 = .ok (.if_icmp .eq 12, 3) := by decide +kernel
theorem dX8_reads_69 : decode cX8_reads 69 = .ok (.aload_n 0, 1) := by decide +kernel
theorem dX8_reads_70 : decode cX8_reads 70 = .ok (.getfield 15, 3) := by decide +kernel
theorem dX8_reads_73 : decode cX8_reads 73 = .ok (.iconst 0, 1) := by decide +kernel
theorem dX8_reads_74 : decode cX8_reads 74 = .ok (.invokevirtual 37, 3) := by decide +kernel
theorem dX8_reads_77 : decode cX8_reads 77 = .ok (.ireturn, 1) := by decide +kernel
theorem dX8_reads_78 : decode cX8_reads 78 = .ok (.aload_n 0, 1) := by decide +kernel
theorem dX8_reads_79 : decode cX8_reads 79 = .ok (.getfield 15, 3) := by decide +kernel
theorem dX8_reads_82 : decode cX8_reads 82 = .ok (.invokevirtual 41, 3) := by decide +kernel
theorem dX8_reads_85 : decode cX8_reads 85 = .ok (.iinc 2 1, 3) := by decide +kernel
theorem dX8_reads_88 : decode cX8_reads 88 = .ok (.goto (-82), 3) := by decide +kernel
theorem dX8_reads_91 : decode cX8_reads 91 = .ok (.aload_n 0, 1) := by decide +kernel
theorem dX8_reads_92 : decode cX8_reads 92 = .ok (.getfield 15, 3) := by decide +kernel
theorem dX8_reads_95 : decode cX8_reads 95 = .ok (.iconst 4, 1) := by decide +kernel
theorem dX8_reads_96 : decode cX8_reads 96 = .ok (.invokevirtual 37, 3) := by decide +kernel
theorem dX8_reads_99 : decode cX8_reads 99 = .ok (.ireturn, 1) := by decide +kernel
theorem dX8_readsClause_0 : decode cX8_readsClause 0 = .ok (.aload_n 0, 1) := by decide +kernel
theorem dX8_readsClause_1 : decode cX8_readsClause 1 = .ok (.getfield 15, 3) := by decide +kernel
theorem dX8_readsClause_4 : decode cX8_readsClause 4 = .ok (.invokevirtual 28, 3) := by decide +kernel
theorem dX8_readsClause_7 : decode cX8_readsClause 7 = .ok (.istore_n 3, 1) := by decide +kernel
theorem dX8_readsClause_8 : decode cX8_readsClause 8 = .ok (.iload_n 3, 1) := by decide +kernel
theorem dX8_readsClause_9 : decode cX8_readsClause 9 = .ok (.bipush 25, 2) := by decide +kernel
theorem dX8_readsClause_11 : decode cX8_readsClause 11 = .ok (.if_icmp .ne 7, 3) := by decide +kernel
theorem dX8_readsClause_14 : decode cX8_readsClause 14 = .ok (.iconst 1, 1) := by decide +kernel
theorem dX8_readsClause_15 : decode cX8_readsClause 15 = .ok (.goto 4, 3) := by decide +kernel
theorem dX8_readsClause_18 : decode cX8_readsClause 18 = .ok (.iconst 0, 1) := by decide +kernel
theorem dX8_readsClause_19 : decode cX8_readsClause 19 = .ok (.istore 4, 2) := by decide +kernel
theorem dX8_readsClause_21 : decode cX8_readsClause 21 = .ok (.iload_n 3, 1) := by decide +kernel
theorem dX8_readsClause_22 : decode cX8_readsClause 22 = .ok (.bipush 34, 2) := by decide +kernel
theorem dX8_readsClause_24 : decode cX8_readsClause 24 = .ok (.if_icmp .ne 7, 3) := by decide +kernel
theorem dX8_readsClause_27 : decode cX8_readsClause 27 = .ok (.iconst 1, 1) := by decide +kernel
theorem dX8_readsClause_28 : decode cX8_readsClause 28 = .ok (.goto 4, 3) := by decide +kernel
theorem dX8_readsClause_31 : decode cX8_readsClause 31 = .ok (.iconst 0, 1) := by decide +kernel
theorem dX8_readsClause_32 : decode cX8_readsClause 32 = .ok (.istore 5, 2) := by decide +kernel
theorem dX8_readsClause_34 : decode cX8_readsClause 34 = .ok (.iload 4, 2) := by decide +kernel
theorem dX8_readsClause_36 : decode cX8_readsClause 36 = .ok (.ifCond .ne 23, 3) := by decide +kernel
theorem dX8_readsClause_39 : decode cX8_readsClause 39 = .ok (.iload 5, 2) := by decide +kernel
theorem dX8_readsClause_41 : decode cX8_readsClause 41 = .ok (.ifCond .ne 18, 3) := by decide +kernel
theorem dX8_readsClause_44 : decode cX8_readsClause 44 = .ok (.iload_n 3, 1) := by decide +kernel
theorem dX8_readsClause_45 : decode cX8_readsClause 45 = .ok (.bipush 35, 2) := by decide +kernel
theorem dX8_readsClause_47 : decode cX8_readsClause 47 = .ok (.if_icmp .eq 12, 3) := by decide +kernel
theorem dX8_readsClause_50 : decode cX8_readsClause 50 = .ok (.aload_n 0, 1) := by decide +kernel
theorem dX8_readsClause_51 : decode cX8_readsClause 51 = .ok (.getfield 15, 3) := by decide +kernel
theorem dX8_readsClause_54 : decode cX8_readsClause 54 = .ok (.iconst 0, 1) := by decide +kernel
theorem dX8_readsClause_55 : decode cX8_readsClause 55 = .ok (.invokevirtual 37, 3) := by decide +kernel
theorem dX8_readsClause_58 : decode cX8_readsClause 58 = .ok (.ireturn, 1) := by decide +kernel
theorem dX8_readsClause_59 : decode cX8_readsClause 59 = .ok (.iload_n 2, 1) := by decide +kernel
theorem dX8_readsClause_60 : decode cX8_readsClause 60 = .ok (.bipush 40, 2) := by decide +kernel
theorem dX8_readsClause_62 : decode cX8_readsClause 62 = .ok (.if_icmp .ge 31, 3) := by decide +kernel
theorem dX8_readsClause_65 : decode cX8_readsClause 65 = .ok (.iload 4, 2) := by decide +kernel
theorem dX8_readsClause_67 : decode cX8_readsClause 67 = .ok (.ifCond .eq 12, 3) := by decide +kernel
theorem dX8_readsClause_70 : decode cX8_readsClause 70 = .ok (.aload_n 1, 1) := by decide +kernel
theorem dX8_readsClause_71 : decode cX8_readsClause 71 = .ok (.getfield 34, 3) := by decide +kernel
theorem dX8_readsClause_74 : decode cX8_readsClause 74 = .ok (.bipush 12, 2) := by decide +kernel
theorem dX8_readsClause_76 : decode cX8_readsClause 76 = .ok (.if_icmp .ge 17, 3) := by decide +kernel
theorem dX8_readsClause_79 : decode cX8_readsClause 79 = .ok (.iload 5, 2) := by decide +kernel
theorem dX8_readsClause_81 : decode cX8_readsClause 81 = .ok (.ifCond .eq 21, 3) := by decide +kernel
theorem dX8_readsClause_84 : decode cX8_readsClause 84 = .ok (.aload_n 1, 1) := by decide +kernel
theorem dX8_readsClause_85 : decode cX8_readsClause 85 = .ok (.getfield 44, 3) := by decide +kernel
theorem dX8_readsClause_88 : decode cX8_readsClause 88 = .ok (.bipush 12, 2) := by decide +kernel
theorem dX8_readsClause_90 : decode cX8_readsClause 90 = .ok (.if_icmp .lt 12, 3) := by decide +kernel
theorem dX8_readsClause_93 : decode cX8_readsClause 93 = .ok (.aload_n 0, 1) := by decide +kernel
theorem dX8_readsClause_94 : decode cX8_readsClause 94 = .ok (.getfield 15, 3) := by decide +kernel
theorem dX8_readsClause_97 : decode cX8_readsClause 97 = .ok (.iconst 4, 1) := by decide +kernel
theorem dX8_readsClause_98 : decode cX8_readsClause 98 = .ok (.invokevirtual 37, 3) := by decide +kernel
theorem dX8_readsClause_101 : decode cX8_readsClause 101 = .ok (.ireturn, 1) := by decide +kernel
theorem dX8_readsClause_102 : decode cX8_readsClause 102 = .ok (.aload_n 0, 1) := by decide +kernel
theorem dX8_readsClause_103 : decode cX8_readsClause 103 = .ok (.getfield 15, 3) := by decide +kernel
theorem dX8_readsClause_106 : decode cX8_readsClause 106 = .ok (.invokevirtual 41, 3) := by decide +kernel
theorem dX8_readsClause_109 : decode cX8_readsClause 109 = .ok (.iload 4, 2) := by decide +kernel
theorem dX8_readsClause_111 : decode cX8_readsClause 111 = .ok (.ifCond .eq 11, 3) := by decide +kernel
theorem dX8_readsClause_114 : decode cX8_readsClause 114 = .ok (.aload_n 0, 1) := by decide +kernel
theorem dX8_readsClause_115 : decode cX8_readsClause 115 = .ok (.aload_n 1, 1) := by decide +kernel
theorem dX8_readsClause_116 : decode cX8_readsClause 116 = .ok (.invokevirtual 47, 3) := by decide +kernel
theorem dX8_readsClause_119 : decode cX8_readsClause 119 = .ok (.goto 21, 3) := by decide +kernel
theorem dX8_readsClause_122 : decode cX8_readsClause 122 = .ok (.iload 5, 2) := by decide +kernel
theorem dX8_readsClause_124 : decode cX8_readsClause 124 = .ok (.ifCond .eq 11, 3) := by decide +kernel
theorem dX8_readsClause_127 : decode cX8_readsClause 127 = .ok (.aload_n 0, 1) := by decide +kernel
theorem dX8_readsClause_128 : decode cX8_readsClause 128 = .ok (.aload_n 1, 1) := by decide +kernel
theorem dX8_readsClause_129 : decode cX8_readsClause 129 = .ok (.invokevirtual 51, 3) := by decide +kernel
theorem dX8_readsClause_132 : decode cX8_readsClause 132 = .ok (.goto 8, 3) := by decide +kernel
theorem dX8_readsClause_135 : decode cX8_readsClause 135 = .ok (.aload_n 0, 1) := by decide +kernel
theorem dX8_readsClause_136 : decode cX8_readsClause 136 = .ok (.aload_n 1, 1) := by decide +kernel
theorem dX8_readsClause_137 : decode cX8_readsClause 137 = .ok (.invokevirtual 54, 3) := by decide +kernel
theorem dX8_readsClause_140 : decode cX8_readsClause 140 = .ok (.ireturn, 1) := by decide +kernel
theorem dX8_readsCock_0 : decode cX8_readsCock 0 = .ok (.aload_n 1, 1) := by decide +kernel
theorem dX8_readsCock_1 : decode cX8_readsCock 1 = .ok (.getfield 34, 3) := by decide +kernel
theorem dX8_readsCock_4 : decode cX8_readsCock 4 = .ok (.istore_n 2, 1) := by decide +kernel
theorem dX8_readsCock_5 : decode cX8_readsCock 5 = .ok (.aload_n 0, 1) := by decide +kernel
theorem dX8_readsCock_6 : decode cX8_readsCock 6 = .ok (.aload_n 1, 1) := by decide +kernel
theorem dX8_readsCock_7 : decode cX8_readsCock 7 = .ok (.getfield 57, 3) := by decide +kernel
theorem dX8_readsCock_10 : decode cX8_readsCock 10 = .ok (.iload_n 2, 1) := by decide +kernel
theorem dX8_readsCock_11 : decode cX8_readsCock 11 = .ok (.bipush 9, 2) := by decide +kernel
theorem dX8_readsCock_13 : decode cX8_readsCock 13 = .ok (.invokevirtual 61, 3) := by decide +kernel
theorem dX8_readsCock_16 : decode cX8_readsCock 16 = .ok (.ifCond .eq 72, 3) := by decide +kernel
theorem dX8_readsCock_19 : decode cX8_readsCock 19 = .ok (.aload_n 0, 1) := by decide +kernel
theorem dX8_readsCock_20 : decode cX8_readsCock 20 = .ok (.aload_n 1, 1) := by decide +kernel
theorem dX8_readsCock_21 : decode cX8_readsCock 21 = .ok (.getfield 65, 3) := by decide +kernel
theorem dX8_readsCock_24 : decode cX8_readsCock 24 = .ok (.iload_n 2, 1) := by decide +kernel
theorem dX8_readsCock_25 : decode cX8_readsCock 25 = .ok (.bipush 9, 2) := by decide +kernel
theorem dX8_readsCock_27 : decode cX8_readsCock 27 = .ok (.invokevirtual 61, 3) := by decide +kernel
theorem dX8_readsCock_30 : decode cX8_readsCock 30 = .ok (.ifCond .eq 58, 3) := by decide +kernel
theorem dX8_readsCock_33 : decode cX8_readsCock 33 = .ok (.aload_n 0, 1) := by decide +kernel
theorem dX8_readsCock_34 : decode cX8_readsCock 34 = .ok (.aload_n 1, 1) := by decide +kernel
theorem dX8_readsCock_35 : decode cX8_readsCock 35 = .ok (.getfield 68, 3) := by decide +kernel
theorem dX8_readsCock_38 : decode cX8_readsCock 38 = .ok (.iload_n 2, 1) := by decide +kernel
theorem dX8_readsCock_39 : decode cX8_readsCock 39 = .ok (.bipush 9, 2) := by decide +kernel
theorem dX8_readsCock_41 : decode cX8_readsCock 41 = .ok (.invokevirtual 61, 3) := by decide +kernel
theorem dX8_readsCock_44 : decode cX8_readsCock 44 = .ok (.ifCond .eq 44, 3) := by decide +kernel
theorem dX8_readsCock_47 : decode cX8_readsCock 47 = .ok (.aload_n 0, 1) := by decide +kernel
theorem dX8_readsCock_48 : decode cX8_readsCock 48 = .ok (.aload_n 1, 1) := by decide +kernel
theorem dX8_readsCock_49 : decode cX8_readsCock 49 = .ok (.getfield 71, 3) := by decide +kernel
theorem dX8_readsCock_52 : decode cX8_readsCock 52 = .ok (.iload_n 2, 1) := by decide +kernel
theorem dX8_readsCock_53 : decode cX8_readsCock 53 = .ok (.bipush 99, 2) := by decide +kernel
theorem dX8_readsCock_55 : decode cX8_readsCock 55 = .ok (.invokevirtual 61, 3) := by decide +kernel
theorem dX8_readsCock_58 : decode cX8_readsCock 58 = .ok (.ifCond .eq 30, 3) := by decide +kernel
theorem dX8_readsCock_61 : decode cX8_readsCock 61 = .ok (.aload_n 0, 1) := by decide +kernel
theorem dX8_readsCock_62 : decode cX8_readsCock 62 = .ok (.aload_n 1, 1) := by decide +kernel
theorem dX8_readsCock_63 : decode cX8_readsCock 63 = .ok (.getfield 74, 3) := by decide +kernel
theorem dX8_readsCock_66 : decode cX8_readsCock 66 = .ok (.iload_n 2, 1) := by decide +kernel
theorem dX8_readsCock_67 : decode cX8_readsCock 67 = .ok (.iconst 3, 1) := by decide +kernel
theorem dX8_readsCock_68 : decode cX8_readsCock 68 = .ok (.invokevirtual 61, 3) := by decide +kernel
theorem dX8_readsCock_71 : decode cX8_readsCock 71 = .ok (.ifCond .eq 17, 3) := by decide +kernel
theorem dX8_readsCock_74 : decode cX8_readsCock 74 = .ok (.aload_n 0, 1) := by decide +kernel
theorem dX8_readsCock_75 : decode cX8_readsCock 75 = .ok (.aload_n 1, 1) := by decide +kernel
theorem dX8_readsCock_76 : decode cX8_readsCock 76 = .ok (.getfield 77, 3) := by decide +kernel
theorem dX8_readsCock_79 : decode cX8_readsCock 79 = .ok (.iload_n 2, 1) := by decide +kernel
theorem dX8_readsCock_80 : decode cX8_readsCock 80 = .ok (.bipush 7, 2) := by decide +kernel
theorem dX8_readsCock_82 : decode cX8_readsCock 82 = .ok (.invokevirtual 61, 3) := by decide +kernel
theorem dX8_readsCock_85 : decode cX8_readsCock 85 = .ok (.ifCond .ne 5, 3) := by decide +kernel
theorem dX8_readsCock_88 : decode cX8_readsCock 88 = .ok (.iconst 0, 1) := by decide +kernel
theorem dX8_readsCock_89 : decode cX8_readsCock 89 = .ok (.ireturn, 1) := by decide +kernel
theorem dX8_readsCock_90 : decode cX8_readsCock 90 = .ok (.aload_n 1, 1) := by decide +kernel
theorem dX8_readsCock_91 : decode cX8_readsCock 91 = .ok (.dup, 1) := by decide +kernel
theorem dX8_readsCock_92 : decode cX8_readsCock 92 = .ok (.getfield 34, 3) := by decide +kernel
theorem dX8_readsCock_95 : decode cX8_readsCock 95 = .ok (.iconst 1, 1) := by decide +kernel
theorem dX8_readsCock_96 : decode cX8_readsCock 96 = .ok (.iadd, 1) := by decide +kernel
theorem dX8_readsCock_97 : decode cX8_readsCock 97 = .ok (.putfield 34, 3) := by decide +kernel
theorem dX8_readsCock_100 : decode cX8_readsCock 100 = .ok (.iconst 1, 1) := by decide +kernel
theorem dX8_readsCock_101 : decode cX8_readsCock 101 = .ok (.ireturn, 1) := by decide +kernel
theorem dX8_readsTree_0 : decode cX8_readsTree 0 = .ok (.aload_n 0, 1) := by decide +kernel
theorem dX8_readsTree_1 : decode cX8_readsTree 1 = .ok (.aload_n 1, 1) := by decide +kernel
theorem dX8_readsTree_2 : decode cX8_readsTree 2 = .ok (.getfield 80, 3) := by decide +kernel
theorem dX8_readsTree_5 : decode cX8_readsTree 5 = .ok (.aload_n 1, 1) := by decide +kernel
theorem dX8_readsTree_6 : decode cX8_readsTree 6 = .ok (.getfield 44, 3) := by decide +kernel
theorem dX8_readsTree_9 : decode cX8_readsTree 9 = .ok (.bipush 9, 2) := by decide +kernel
theorem dX8_readsTree_11 : decode cX8_readsTree 11 = .ok (.invokevirtual 61, 3) := by decide +kernel
theorem dX8_readsTree_14 : decode cX8_readsTree 14 = .ok (.ifCond .eq 20, 3) := by decide +kernel
theorem dX8_readsTree_17 : decode cX8_readsTree 17 = .ok (.aload_n 0, 1) := by decide +kernel
theorem dX8_readsTree_18 : decode cX8_readsTree 18 = .ok (.aload_n 1, 1) := by decide +kernel
theorem dX8_readsTree_19 : decode cX8_readsTree 19 = .ok (.getfield 83, 3) := by decide +kernel
theorem dX8_readsTree_22 : decode cX8_readsTree 22 = .ok (.aload_n 1, 1) := by decide +kernel
theorem dX8_readsTree_23 : decode cX8_readsTree 23 = .ok (.getfield 44, 3) := by decide +kernel
theorem dX8_readsTree_26 : decode cX8_readsTree 26 = .ok (.bipush 9, 2) := by decide +kernel
theorem dX8_readsTree_28 : decode cX8_readsTree 28 = .ok (.invokevirtual 61, 3) := by decide +kernel
theorem dX8_readsTree_31 : decode cX8_readsTree 31 = .ok (.ifCond .ne 5, 3) := by decide +kernel
theorem dX8_readsTree_34 : decode cX8_readsTree 34 = .ok (.iconst 0, 1) := by decide +kernel
theorem dX8_readsTree_35 : decode cX8_readsTree 35 = .ok (.ireturn, 1) := by decide +kernel
theorem dX8_readsTree_36 : decode cX8_readsTree 36 = .ok (.aload_n 1, 1) := by decide +kernel
theorem dX8_readsTree_37 : decode cX8_readsTree 37 = .ok (.dup, 1) := by decide +kernel
theorem dX8_readsTree_38 : decode cX8_readsTree 38 = .ok (.getfield 44, 3) := by decide +kernel
theorem dX8_readsTree_41 : decode cX8_readsTree 41 = .ok (.iconst 1, 1) := by decide +kernel
theorem dX8_readsTree_42 : decode cX8_readsTree 42 = .ok (.iadd, 1) := by decide +kernel
theorem dX8_readsTree_43 : decode cX8_readsTree 43 = .ok (.putfield 44, 3) := by decide +kernel
theorem dX8_readsTree_46 : decode cX8_readsTree 46 = .ok (.iconst 1, 1) := by decide +kernel
theorem dX8_readsTree_47 : decode cX8_readsTree 47 = .ok (.ireturn, 1) := by decide +kernel
theorem dX8_readsWorth_0 : decode cX8_readsWorth 0 = .ok (.aload_n 0, 1) := by decide +kernel
theorem dX8_readsWorth_1 : decode cX8_readsWorth 1 = .ok (.iconst 3, 1) := by decide +kernel
theorem dX8_readsWorth_2 : decode cX8_readsWorth 2 = .ok (.invokevirtual 86, 3) := by decide +kernel
theorem dX8_readsWorth_5 : decode cX8_readsWorth 5 = .ok (.ifCond .ne 5, 3) := by decide +kernel
theorem dX8_readsWorth_8 : decode cX8_readsWorth 8 = .ok (.iconst 0, 1) := by decide +kernel
theorem dX8_readsWorth_9 : decode cX8_readsWorth 9 = .ok (.ireturn, 1) := by decide +kernel
theorem dX8_readsWorth_10 : decode cX8_readsWorth 10 = .ok (.aload_n 0, 1) := by decide +kernel
theorem dX8_readsWorth_11 : decode cX8_readsWorth 11 = .ok (.getfield 9, 3) := by decide +kernel
theorem dX8_readsWorth_14 : decode cX8_readsWorth 14 = .ok (.istore_n 2, 1) := by decide +kernel
theorem dX8_readsWorth_15 : decode cX8_readsWorth 15 = .ok (.aload_n 0, 1) := by decide +kernel
theorem dX8_readsWorth_16 : decode cX8_readsWorth 16 = .ok (.bipush 7, 2) := by decide +kernel
theorem dX8_readsWorth_18 : decode cX8_readsWorth 18 = .ok (.invokevirtual 86, 3) := by decide +kernel
theorem dX8_readsWorth_21 : decode cX8_readsWorth 21 = .ok (.ifCond .ne 5, 3) := by decide +kernel
theorem dX8_readsWorth_24 : decode cX8_readsWorth 24 = .ok (.iconst 0, 1) := by decide +kernel
theorem dX8_readsWorth_25 : decode cX8_readsWorth 25 = .ok (.ireturn, 1) := by decide +kernel
theorem dX8_readsWorth_26 : decode cX8_readsWorth 26 = .ok (.aload_n 0, 1) := by decide +kernel
theorem dX8_readsWorth_27 : decode cX8_readsWorth 27 = .ok (.getfield 9, 3) := by decide +kernel
theorem dX8_readsWorth_30 : decode cX8_readsWorth 30 = .ok (.istore_n 3, 1) := by decide +kernel
theorem dX8_readsWorth_31 : decode cX8_readsWorth 31 = .ok (.aload_n 0, 1) := by decide +kernel
theorem dX8_readsWorth_32 : decode cX8_readsWorth 32 = .ok (.bipush 99, 2) := by decide +kernel
theorem dX8_readsWorth_34 : decode cX8_readsWorth 34 = .ok (.invokevirtual 86, 3) := by decide +kernel
theorem dX8_readsWorth_37 : decode cX8_readsWorth 37 = .ok (.ifCond .ne 5, 3) := by decide +kernel
theorem dX8_readsWorth_40 : decode cX8_readsWorth 40 = .ok (.iconst 0, 1) := by decide +kernel
theorem dX8_readsWorth_41 : decode cX8_readsWorth 41 = .ok (.ireturn, 1) := by decide +kernel
theorem dX8_readsWorth_42 : decode cX8_readsWorth 42 = .ok (.aload_n 1, 1) := by decide +kernel
theorem dX8_readsWorth_43 : decode cX8_readsWorth 43 = .ok (.iload_n 2, 1) := by decide +kernel
theorem dX8_readsWorth_44 : decode cX8_readsWorth 44 = .ok (.iload_n 3, 1) := by decide +kernel
theorem dX8_readsWorth_45 : decode cX8_readsWorth 45 = .ok (.aload_n 0, 1) := by decide +kernel
theorem dX8_readsWorth_46 : decode cX8_readsWorth 46 = .ok (.getfield 9, 3) := by decide +kernel
theorem dX8_readsWorth_49 : decode cX8_readsWorth 49 = .ok (.invokevirtual 89, 3) := by decide +kernel
theorem dX8_readsWorth_52 : decode cX8_readsWorth 52 = .ok (.iconst 1, 1) := by decide +kernel
theorem dX8_readsWorth_53 : decode cX8_readsWorth 53 = .ok (.ireturn, 1) := by decide +kernel
theorem dX8_readsInto_0 : decode cX8_readsInto 0 = .ok (.aload_n 0, 1) := by decide +kernel
theorem dX8_readsInto_1 : decode cX8_readsInto 1 = .ok (.iload_n 3, 1) := by decide +kernel
theorem dX8_readsInto_2 : decode cX8_readsInto 2 = .ok (.invokevirtual 86, 3) := by decide +kernel
theorem dX8_readsInto_5 : decode cX8_readsInto 5 = .ok (.ifCond .ne 5, 3) := by decide +kernel
theorem dX8_readsInto_8 : decode cX8_readsInto 8 = .ok (.iconst 0, 1) := by decide +kernel
theorem dX8_readsInto_9 : decode cX8_readsInto 9 = .ok (.ireturn, 1) := by decide +kernel
theorem dX8_readsInto_10 : decode cX8_readsInto 10 = .ok (.iload_n 2, 1) := by decide +kernel
theorem dX8_readsInto_11 : decode cX8_readsInto 11 = .ok (.ifCond .lt 16, 3) := by decide +kernel
theorem dX8_readsInto_14 : decode cX8_readsInto 14 = .ok (.iload_n 2, 1) := by decide +kernel
theorem dX8_readsInto_15 : decode cX8_readsInto 15 = .ok (.aload_n 1, 1) := by decide +kernel
theorem dX8_readsInto_16 : decode cX8_readsInto 16 = .ok (.arraylength, 1) := by decide +kernel
theorem dX8_readsInto_17 : decode cX8_readsInto 17 = .ok (.if_icmp .ge 10, 3) := by decide +kernel
theorem dX8_readsInto_20 : decode cX8_readsInto 20 = .ok (.aload_n 1, 1) := by decide +kernel
theorem dX8_readsInto_21 : decode cX8_readsInto 21 = .ok (.iload_n 2, 1) := by decide +kernel
theorem dX8_readsInto_22 : decode cX8_readsInto 22 = .ok (.aload_n 0, 1) := by decide +kernel
theorem dX8_readsInto_23 : decode cX8_readsInto 23 = .ok (.getfield 9, 3) := by decide +kernel
theorem dX8_readsInto_26 : decode cX8_readsInto 26 = .ok (.iastore, 1) := by decide +kernel
theorem dX8_readsInto_27 : decode cX8_readsInto 27 = .ok (.iconst 1, 1) := by decide +kernel
theorem dX8_readsInto_28 : decode cX8_readsInto 28 = .ok (.ireturn, 1) := by decide +kernel
theorem dX8_readsNumber_0 : decode cX8_readsNumber 0 = .ok (.aload_n 0, 1) := by decide +kernel
theorem dX8_readsNumber_1 : decode cX8_readsNumber 1 = .ok (.getfield 15, 3) := by decide +kernel
theorem dX8_readsNumber_4 : decode cX8_readsNumber 4 = .ok (.invokevirtual 28, 3) := by decide +kernel
theorem dX8_readsNumber_7 : decode cX8_readsNumber 7 = .ok (.iconst 3, 1) := by decide +kernel
theorem dX8_readsNumber_8 : decode cX8_readsNumber 8 = .ok (.if_icmp .eq 12, 3) := by decide +kernel
theorem dX8_readsNumber_11 : decode cX8_readsNumber 11 = .ok (.aload_n 0, 1) := by decide +kernel
theorem dX8_readsNumber_12 : decode cX8_readsNumber 12 = .ok (.getfield 15, 3) := by decide +kernel
theorem dX8_readsNumber_15 : decode cX8_readsNumber 15 = .ok (.iconst 0, 1) := by decide +kernel
theorem dX8_readsNumber_16 : decode cX8_readsNumber 16 = .ok (.invokevirtual 37, 3) := by decide +kernel
theorem dX8_readsNumber_19 : decode cX8_readsNumber 19 = .ok (.ireturn, 1) := by decide +kernel
theorem dX8_readsNumber_20 : decode cX8_readsNumber 20 = .ok (.aload_n 0, 1) := by decide +kernel
theorem dX8_readsNumber_21 : decode cX8_readsNumber 21 = .ok (.aload_n 0, 1) := by decide +kernel
theorem dX8_readsNumber_22 : decode cX8_readsNumber 22 = .ok (.getfield 15, 3) := by decide +kernel
theorem dX8_readsNumber_25 : decode cX8_readsNumber 25 = .ok (.invokevirtual 93, 3) := by decide +kernel
theorem dX8_readsNumber_28 : decode cX8_readsNumber 28 = .ok (.putfield 9, 3) := by decide +kernel
theorem dX8_readsNumber_31 : decode cX8_readsNumber 31 = .ok (.aload_n 0, 1) := by decide +kernel
theorem dX8_readsNumber_32 : decode cX8_readsNumber 32 = .ok (.getfield 9, 3) := by decide +kernel
theorem dX8_readsNumber_35 : decode cX8_readsNumber 35 = .ok (.ifCond .lt 11, 3) := by decide +kernel
theorem dX8_readsNumber_38 : decode cX8_readsNumber 38 = .ok (.aload_n 0, 1) := by decide +kernel
theorem dX8_readsNumber_39 : decode cX8_readsNumber 39 = .ok (.getfield 9, 3) := by decide +kernel
theorem dX8_readsNumber_42 : decode cX8_readsNumber 42 = .ok (.iload_n 1, 1) := by decide +kernel
theorem dX8_readsNumber_43 : decode cX8_readsNumber 43 = .ok (.if_icmp .le 12, 3) := by decide +kernel
theorem dX8_readsNumber_46 : decode cX8_readsNumber 46 = .ok (.aload_n 0, 1) := by decide +kernel
theorem dX8_readsNumber_47 : decode cX8_readsNumber 47 = .ok (.getfield 15, 3) := by decide +kernel
theorem dX8_readsNumber_50 : decode cX8_readsNumber 50 = .ok (.iconst 1, 1) := by decide +kernel
theorem dX8_readsNumber_51 : decode cX8_readsNumber 51 = .ok (.invokevirtual 37, 3) := by decide +kernel
theorem dX8_readsNumber_54 : decode cX8_readsNumber 54 = .ok (.ireturn, 1) := by decide +kernel
theorem dX8_readsNumber_55 : decode cX8_readsNumber 55 = .ok (.aload_n 0, 1) := by decide +kernel
theorem dX8_readsNumber_56 : decode cX8_readsNumber 56 = .ok (.getfield 15, 3) := by decide +kernel
theorem dX8_readsNumber_59 : decode cX8_readsNumber 59 = .ok (.invokevirtual 41, 3) := by decide +kernel
theorem dX8_readsNumber_62 : decode cX8_readsNumber 62 = .ok (.iconst 1, 1) := by decide +kernel
theorem dX8_readsNumber_63 : decode cX8_readsNumber 63 = .ok (.ireturn, 1) := by decide +kernel
theorem dX9_init_0 : decode cX9_init 0 = .ok (.aload_n 0, 1) := by decide +kernel
theorem dX9_init_1 : decode cX9_init 1 = .ok (.invokespecial 3, 3) := by decide +kernel
theorem dX9_init_4 : decode cX9_init 4 = .ok (.aload_n 0, 1) := by decide +kernel
theorem dX9_init_5 : decode cX9_init 5 = .ok (.bipush 9, 2) := by decide +kernel
theorem dX9_init_7 : decode cX9_init 7 = .ok (.newarray .int, 2) := by decide +kernel
theorem dX9_init_9 : decode cX9_init 9 = .ok (.putfield 9, 3) := by decide +kernel
theorem dX9_init_12 : decode cX9_init 12 = .ok (.aload_n 0, 1) := by decide +kernel
theorem dX9_init_13 : decode cX9_init 13 = .ok (.bipush 64, 2) := by decide +kernel
theorem dX9_init_15 : decode cX9_init 15 = .ok (.newarray .long, 2) := by decide +kernel
theorem dX9_init_17 : decode cX9_init 17 = .ok (.putfield 17, 3) := by decide +kernel
theorem dX9_init_20 : decode cX9_init 20 = .ok (.return_, 1) := by decide +kernel
theorem dX9_stand_0 : decode cX9_stand 0 = .ok (.aload_n 1, 1) := by decide +kernel
theorem dX9_stand_1 : decode cX9_stand 1 = .ok (.iload_n 2, 1) := by decide +kernel
theorem dX9_stand_2 : decode cX9_stand 2 = .ok (.invokevirtual 21, 3) := by decide +kernel
theorem dX9_stand_5 : decode cX9_stand 5 = .ok (.ifCond .ne 4, 3) := by decide +kernel
theorem dX9_stand_8 : decode cX9_stand 8 = .ok (.return_, 1) := by decide +kernel
theorem dX9_stand_9 : decode cX9_stand 9 = .ok (.aload_n 0, 1) := by decide +kernel
theorem dX9_stand_10 : decode cX9_stand 10 = .ok (.getfield 9, 3) := by decide +kernel
theorem dX9_stand_13 : decode cX9_stand 13 = .ok (.iconst 0, 1) := by decide +kernel
theorem dX9_stand_14 : decode cX9_stand 14 = .ok (.iload_n 2, 1) := by decide +kernel
theorem dX9_stand_15 : decode cX9_stand 15 = .ok (.iastore, 1) := by decide +kernel
theorem dX9_stand_16 : decode cX9_stand 16 = .ok (.aload_n 0, 1) := by decide +kernel
theorem dX9_stand_17 : decode cX9_stand 17 = .ok (.getfield 9, 3) := by decide +kernel
theorem dX9_stand_20 : decode cX9_stand 20 = .ok (.iconst 1, 1) := by decide +kernel
theorem dX9_stand_21 : decode cX9_stand 21 = .ok (.aload_n 1, 1) := by decide +kernel
theorem dX9_stand_22 : decode cX9_stand 22 = .ok (.getfield 27, 3) := by decide +kernel
theorem dX9_stand_25 : decode cX9_stand 25 = .ok (.iload_n 2, 1) := by decide +kernel
theorem dX9_stand_26 : decode cX9_stand 26 = .ok (.iaload, 1) := by decide +kernel
theorem dX9_stand_27 : decode cX9_stand 27 = .ok (.iastore, 1) := by decide +kernel
theorem dX9_stand_28 : decode cX9_stand 28 = .ok (.aload_n 0, 1) := by decide +kernel
theorem dX9_stand_29 : decode cX9_stand 29 = .ok (.getfield 9, 3) := by decide +kernel
theorem dX9_stand_32 : decode cX9_stand 32 = .ok (.iconst 2, 1) := by decide +kernel
theorem dX9_stand_33 : decode cX9_stand 33 = .ok (.aload_n 1, 1) := by decide +kernel
theorem dX9_stand_34 : decode cX9_stand 34 = .ok (.getfield 30, 3) := by decide +kernel
theorem dX9_stand_37 : decode cX9_stand 37 = .ok (.iload_n 2, 1) := by decide +kernel
theorem dX9_stand_38 : decode cX9_stand 38 = .ok (.iaload, 1) := by decide +kernel
theorem dX9_stand_39 : decode cX9_stand 39 = .ok (.iastore, 1) := by decide +kernel
theorem dX9_stand_40 : decode cX9_stand 40 = .ok (.aload_n 0, 1) := by decide +kernel
theorem dX9_stand_41 : decode cX9_stand 41 = .ok (.getfield 9, 3) := by decide +kernel
theorem dX9_stand_44 : decode cX9_stand 44 = .ok (.iconst 3, 1) := by decide +kernel
theorem dX9_stand_45 : decode cX9_stand 45 = .ok (.aload_n 1, 1) := by decide +kernel
theorem dX9_stand_46 : decode cX9_stand 46 = .ok (.getfield 33, 3) := by decide +kernel
theorem dX9_stand_49 : decode cX9_stand 49 = .ok (.iload_n 2, 1) := by decide +kernel
theorem dX9_stand_50 : decode cX9_stand 50 = .ok (.iaload, 1) := by decide +kernel
theorem dX9_stand_51 : decode cX9_stand 51 = .ok (.iastore, 1) := by decide +kernel
theorem dX9_stand_52 : decode cX9_stand 52 = .ok (.aload_n 0, 1) := by decide +kernel
theorem dX9_stand_53 : decode cX9_stand 53 = .ok (.getfield 9, 3) := by decide +kernel
theorem dX9_stand_56 : decode cX9_stand 56 = .ok (.bipush 6, 2) := by decide +kernel
theorem dX9_stand_58 : decode cX9_stand 58 = .ok (.iload_n 3, 1) := by decide +kernel
theorem dX9_stand_59 : decode cX9_stand 59 = .ok (.iastore, 1) := by decide +kernel
theorem dX9_stand_60 : decode cX9_stand 60 = .ok (.aload_n 0, 1) := by decide +kernel
theorem dX9_stand_61 : decode cX9_stand 61 = .ok (.getfield 9, 3) := by decide +kernel
theorem dX9_stand_64 : decode cX9_stand 64 = .ok (.bipush 7, 2) := by decide +kernel
theorem dX9_stand_66 : decode cX9_stand 66 = .ok (.aload_n 1, 1) := by decide +kernel
theorem dX9_stand_67 : decode cX9_stand 67 = .ok (.iload_n 2, 1) := by decide +kernel
theorem dX9_stand_68 : decode cX9_stand 68 = .ok (.iload_n 3, 1) := by decide +kernel
theorem dX9_stand_69 : decode cX9_stand 69 = .ok (.iload 4, 2) := by decide +kernel
theorem dX9_stand_71 : decode cX9_stand 71 = .ok (.invokevirtual 36, 3) := by decide +kernel
theorem dX9_stand_74 : decode cX9_stand 74 = .ok (.iastore, 1) := by decide +kernel
theorem dX9_stand_75 : decode cX9_stand 75 = .ok (.return_, 1) := by decide +kernel
theorem dX9_turned_0 : decode cX9_turned 0 = .ok (.aload_n 1, 1) := by decide +kernel
theorem dX9_turned_1 : decode cX9_turned 1 = .ok (.ifnonnull 5, 3) := by decide +kernel
theorem dX9_turned_4 : decode cX9_turned 4 = .ok (.iload_n 2, 1) := by decide +kernel
theorem dX9_turned_5 : decode cX9_turned 5 = .ok (.ireturn, 1) := by decide +kernel
theorem dX9_turned_6 : decode cX9_turned 6 = .ok (.aload_n 0, 1) := by decide +kernel
theorem dX9_turned_7 : decode cX9_turned 7 = .ok (.getfield 9, 3) := by decide +kernel
theorem dX9_turned_10 : decode cX9_turned 10 = .ok (.bipush 6, 2) := by decide +kernel
theorem dX9_turned_12 : decode cX9_turned 12 = .ok (.iaload, 1) := by decide +kernel
theorem dX9_turned_13 : decode cX9_turned 13 = .ok (.istore 4, 2) := by decide +kernel
theorem dX9_turned_15 : decode cX9_turned 15 = .ok (.iload_n 2, 1) := by decide +kernel
theorem dX9_turned_16 : decode cX9_turned 16 = .ok (.istore 5, 2) := by decide +kernel
theorem dX9_turned_18 : decode cX9_turned 18 = .ok (.iconst 0, 1) := by decide +kernel
theorem dX9_turned_19 : decode cX9_turned 19 = .ok (.istore 6, 2) := by decide +kernel
theorem dX9_turned_21 : decode cX9_turned 21 = .ok (.iload 6, 2) := by decide +kernel
theorem dX9_turned_23 : decode cX9_turned 23 = .ok (.iload_n 3, 1) := by decide +kernel
theorem dX9_turned_24 : decode cX9_turned 24 = .ok (.if_icmp .ge 109, 3) := by decide +kernel
theorem dX9_turned_27 : decode cX9_turned 27 = .ok (.iload 5, 2) := by decide +kernel
theorem dX9_turned_29 : decode cX9_turned 29 = .ok (.iload 4, 2) := by decide +kernel
theorem dX9_turned_31 : decode cX9_turned 31 = .ok (.if_icmp .eq 102, 3) := by decide +kernel
theorem dX9_turned_34 : decode cX9_turned 34 = .ok (.iload 4, 2) := by decide +kernel
theorem dX9_turned_36 : decode cX9_turned 36 = .ok (.iload 5, 2) := by decide +kernel
theorem dX9_turned_38 : decode cX9_turned 38 = .ok (.isub, 1) := by decide +kernel
theorem dX9_turned_39 : decode cX9_turned 39 = .ok (.bipush 7, 2) := by decide +kernel
theorem dX9_turned_41 : decode cX9_turned 41 = .ok (.iand, 1) := by decide +kernel
theorem dX9_turned_42 : decode cX9_turned 42 = .ok (.istore 7, 2) := by decide +kernel
theorem dX9_turned_44 : decode cX9_turned 44 = .ok (.iload 4, 2) := by decide +kernel
theorem dX9_turned_46 : decode cX9_turned 46 = .ok (.iload 5, 2) := by decide +kernel
theorem dX9_turned_48 : decode cX9_turned 48 = .ok (.invokestatic 40, 3) := by decide +kernel
theorem dX9_turned_51 : decode cX9_turned 51 = .ok (.istore 8, 2) := by decide +kernel
theorem dX9_turned_53 : decode cX9_turned 53 = .ok (.aload_n 0, 1) := by decide +kernel
theorem dX9_turned_54 : decode cX9_turned 54 = .ok (.getfield 9, 3) := by decide +kernel
theorem dX9_turned_57 : decode cX9_turned 57 = .ok (.iconst 4, 1) := by decide +kernel
theorem dX9_turned_58 : decode cX9_turned 58 = .ok (.iload 5, 2) := by decide +kernel
theorem dX9_turned_60 : decode cX9_turned 60 = .ok (.iastore, 1) := by decide +kernel
theorem dX9_turned_61 : decode cX9_turned 61 = .ok (.aload_n 0, 1) := by decide +kernel
theorem dX9_turned_62 : decode cX9_turned 62 = .ok (.getfield 9, 3) := by decide +kernel
theorem dX9_turned_65 : decode cX9_turned 65 = .ok (.iconst 5, 1) := by decide +kernel
theorem dX9_turned_66 : decode cX9_turned 66 = .ok (.iload 8, 2) := by decide +kernel
theorem dX9_turned_68 : decode cX9_turned 68 = .ok (.iastore, 1) := by decide +kernel
theorem dX9_turned_69 : decode cX9_turned 69 = .ok (.aload_n 0, 1) := by decide +kernel
theorem dX9_turned_70 : decode cX9_turned 70 = .ok (.getfield 9, 3) := by decide +kernel
theorem dX9_turned_73 : decode cX9_turned 73 = .ok (.bipush 8, 2) := by decide +kernel
theorem dX9_turned_75 : decode cX9_turned 75 = .ok (.iload 6, 2) := by decide +kernel
theorem dX9_turned_77 : decode cX9_turned 77 = .ok (.iastore, 1) := by decide +kernel
theorem dX9_turned_78 : decode cX9_turned 78 = .ok (.lconst 0, 1) := by decide +kernel
theorem dX9_turned_79 : decode cX9_turned 79 = .ok (.iload 8, 2) := by decide +kernel
theorem dX9_turned_81 : decode cX9_turned 81 = .ok (.i2l, 1) := by decide +kernel
theorem dX9_turned_82 : decode cX9_turned 82 = .ok (.aload_n 1, 1) := by decide +kernel
theorem dX9_turned_83 : decode cX9_turned 83 = .ok (.aload_n 0, 1) := by decide +kernel
theorem dX9_turned_84 : decode cX9_turned 84 = .ok (.getfield 9, 3) := by decide +kernel
theorem dX9_turned_87 : decode cX9_turned 87 = .ok (.aload_n 0, 1) := by decide +kernel
theorem dX9_turned_88 : decode cX9_turned 88 = .ok (.getfield 17, 3) := by decide +kernel
theorem dX9_turned_91 : decode cX9_turned 91 = .ok (.invokevirtual 44, 3) := by decide +kernel
theorem dX9_turned_94 : decode cX9_turned 94 = .ok (.invokestatic 48, 3) := by decide +kernel
theorem dX9_turned_97 : decode cX9_turned 97 = .ok (.invokestatic 54, 3) := by decide +kernel
theorem dX9_turned_100 : decode cX9_turned 100 = .ok (.l2i, 1) := by decide +kernel
theorem dX9_turned_101 : decode cX9_turned 101 = .ok (.istore 9, 2) := by decide +kernel
theorem dX9_turned_103 : decode cX9_turned 103 = .ok (.iload 7, 2) := by decide +kernel
theorem dX9_turned_105 : decode cX9_turned 105 = .ok (.iconst 4, 1) := by decide +kernel
theorem dX9_turned_106 : decode cX9_turned 106 = .ok (.if_icmp .gt 11, 3) := by decide +kernel
theorem dX9_turned_109 : decode cX9_turned 109 = .ok (.iload 5, 2) := by decide +kernel
theorem dX9_turned_111 : decode cX9_turned 111 = .ok (.iload 9, 2) := by decide +kernel
theorem dX9_turned_113 : decode cX9_turned 113 = .ok (.iadd, 1) := by decide +kernel
theorem dX9_turned_114 : decode cX9_turned 114 = .ok (.goto 8, 3) := by decide +kernel
theorem dX9_turned_117 : decode cX9_turned 117 = .ok (.iload 5, 2) := by decide +kernel
theorem dX9_turned_119 : decode cX9_turned 119 = .ok (.iload 9, 2) := by decide +kernel
theorem dX9_turned_121 : decode cX9_turned 121 = .ok (.isub, 1) := by decide +kernel
theorem dX9_turned_122 : decode cX9_turned 122 = .ok (.bipush 7, 2) := by decide +kernel
theorem dX9_turned_124 : decode cX9_turned 124 = .ok (.iand, 1) := by decide +kernel
theorem dX9_turned_125 : decode cX9_turned 125 = .ok (.istore 5, 2) := by decide +kernel
theorem dX9_turned_127 : decode cX9_turned 127 = .ok (.iinc 6 1, 3) := by decide +kernel
theorem dX9_turned_130 : decode cX9_turned 130 = .ok (.goto (-109), 3) := by decide +kernel
theorem dX9_turned_133 : decode cX9_turned 133 = .ok (.iload 5, 2) := by decide +kernel
theorem dX9_turned_135 : decode cX9_turned 135 = .ok (.ireturn, 1) := by decide +kernel
theorem dX9_turnAll_0 : decode cX9_turnAll 0 = .ok (.iconst 0, 1) := by decide +kernel
theorem dX9_turnAll_1 : decode cX9_turnAll 1 = .ok (.istore 7, 2) := by decide +kernel
theorem dX9_turnAll_3 : decode cX9_turnAll 3 = .ok (.iload 7, 2) := by decide +kernel
theorem dX9_turnAll_5 : decode cX9_turnAll 5 = .ok (.aload_n 2, 1) := by decide +kernel
theorem dX9_turnAll_6 : decode cX9_turnAll 6 = .ok (.getfield 57, 3) := by decide +kernel
theorem dX9_turnAll_9 : decode cX9_turnAll 9 = .ok (.if_icmp .ge 53, 3) := by decide +kernel
theorem dX9_turnAll_12 : decode cX9_turnAll 12 = .ok (.iload 7, 2) := by decide +kernel
theorem dX9_turnAll_14 : decode cX9_turnAll 14 = .ok (.bipush 12, 2) := by decide +kernel
theorem dX9_turnAll_16 : decode cX9_turnAll 16 = .ok (.if_icmp .ge 46, 3) := by decide +kernel
theorem dX9_turnAll_19 : decode cX9_turnAll 19 = .ok (.iload 7, 2) := by decide +kernel
theorem dX9_turnAll_21 : decode cX9_turnAll 21 = .ok (.aload 6, 2) := by decide +kernel
theorem dX9_turnAll_23 : decode cX9_turnAll 23 = .ok (.arraylength, 1) := by decide +kernel
theorem dX9_turnAll_24 : decode cX9_turnAll 24 = .ok (.if_icmp .ge 38, 3) := by decide +kernel
theorem dX9_turnAll_27 : decode cX9_turnAll 27 = .ok (.aload_n 0, 1) := by decide +kernel
theorem dX9_turnAll_28 : decode cX9_turnAll 28 = .ok (.aload_n 2, 1) := by decide +kernel
theorem dX9_turnAll_29 : decode cX9_turnAll 29 = .ok (.iload 7, 2) := by decide +kernel
theorem dX9_turnAll_31 : decode cX9_turnAll 31 = .ok (.iload_n 3, 1) := by decide +kernel
theorem dX9_turnAll_32 : decode cX9_turnAll 32 = .ok (.iload 5, 2) := by decide +kernel
theorem dX9_turnAll_34 : decode cX9_turnAll 34 = .ok (.invokevirtual 61, 3) := by decide +kernel
theorem dX9_turnAll_37 : decode cX9_turnAll 37 = .ok (.aload 6, 2) := by decide +kernel
theorem dX9_turnAll_39 : decode cX9_turnAll 39 = .ok (.iload 7, 2) := by decide +kernel
theorem dX9_turnAll_41 : decode cX9_turnAll 41 = .ok (.aload_n 0, 1) := by decide +kernel
theorem dX9_turnAll_42 : decode cX9_turnAll 42 = .ok (.aload_n 1, 1) := by decide +kernel
theorem dX9_turnAll_43 : decode cX9_turnAll 43 = .ok (.aload_n 2, 1) := by decide +kernel
theorem dX9_turnAll_44 : decode cX9_turnAll 44 = .ok (.getfield 65, 3) := by decide +kernel
theorem dX9_turnAll_47 : decode cX9_turnAll 47 = .ok (.iload 7, 2) := by decide +kernel
theorem dX9_turnAll_49 : decode cX9_turnAll 49 = .ok (.iaload, 1) := by decide +kernel
theorem dX9_turnAll_50 : decode cX9_turnAll 50 = .ok (.iload 4, 2) := by decide +kernel
theorem dX9_turnAll_52 : decode cX9_turnAll 52 = .ok (.invokevirtual 68, 3) := by decide +kernel
theorem dX9_turnAll_55 : decode cX9_turnAll 55 = .ok (.iastore, 1) := by decide +kernel
theorem dX9_turnAll_56 : decode cX9_turnAll 56 = .ok (.iinc 7 1, 3) := by decide +kernel
theorem dX9_turnAll_59 : decode cX9_turnAll 59 = .ok (.goto (-56), 3) := by decide +kernel
theorem dX9_turnAll_62 : decode cX9_turnAll 62 = .ok (.return_, 1) := by decide +kernel
theorem dX10_init_0 : decode cX10_init 0 = .ok (.aload_n 0, 1) := by decide +kernel
theorem dX10_init_1 : decode cX10_init 1 = .ok (.invokespecial 1, 3) := by decide +kernel
theorem dX10_init_4 : decode cX10_init 4 = .ok (.aload_n 0, 1) := by decide +kernel
theorem dX10_init_5 : decode cX10_init 5 = .ok (.new 7, 3) := by decide +kernel
theorem dX10_init_8 : decode cX10_init 8 = .ok (.dup, 1) := by decide +kernel
theorem dX10_init_9 : decode cX10_init 9 = .ok (.invokespecial 9, 3) := by decide +kernel
theorem dX10_init_12 : decode cX10_init 12 = .ok (.putfield 10, 3) := by decide +kernel
theorem dX10_init_15 : decode cX10_init 15 = .ok (.aload_n 0, 1) := by decide +kernel
theorem dX10_init_16 : decode cX10_init 16 = .ok (.new 16, 3) := by decide +kernel
theorem dX10_init_19 : decode cX10_init 19 = .ok (.dup, 1) := by decide +kernel
theorem dX10_init_20 : decode cX10_init 20 = .ok (.invokespecial 18, 3) := by decide +kernel
theorem dX10_init_23 : decode cX10_init 23 = .ok (.putfield 19, 3) := by decide +kernel
theorem dX10_init_26 : decode cX10_init 26 = .ok (.aload_n 0, 1) := by decide +kernel
theorem dX10_init_27 : decode cX10_init 27 = .ok (.new 23, 3) := by decide +kernel
theorem dX10_init_30 : decode cX10_init 30 = .ok (.dup, 1) := by decide +kernel
theorem dX10_init_31 : decode cX10_init 31 = .ok (.aload_n 0, 1) := by decide +kernel
theorem dX10_init_32 : decode cX10_init 32 = .ok (.getfield 19, 3) := by decide +kernel
theorem dX10_init_35 : decode cX10_init 35 = .ok (.invokespecial 25, 3) := by decide +kernel
theorem dX10_init_38 : decode cX10_init 38 = .ok (.putfield 28, 3) := by decide +kernel
theorem dX10_init_41 : decode cX10_init 41 = .ok (.aload_n 0, 1) := by decide +kernel
theorem dX10_init_42 : decode cX10_init 42 = .ok (.new 32, 3) := by decide +kernel
theorem dX10_init_45 : decode cX10_init 45 = .ok (.dup, 1) := by decide +kernel
theorem dX10_init_46 : decode cX10_init 46 = .ok (.aload_n 0, 1) := by decide +kernel
theorem dX10_init_47 : decode cX10_init 47 = .ok (.getfield 19, 3) := by decide +kernel
theorem dX10_init_50 : decode cX10_init 50 = .ok (.invokespecial 34, 3) := by decide +kernel
theorem dX10_init_53 : decode cX10_init 53 = .ok (.putfield 35, 3) := by decide +kernel
theorem dX10_init_56 : decode cX10_init 56 = .ok (.aload_n 0, 1) := by decide +kernel
theorem dX10_init_57 : decode cX10_init 57 = .ok (.new 39, 3) := by decide +kernel
theorem dX10_init_60 : decode cX10_init 60 = .ok (.dup, 1) := by decide +kernel
theorem dX10_init_61 : decode cX10_init 61 = .ok (.invokespecial 41, 3) := by decide +kernel
theorem dX10_init_64 : decode cX10_init 64 = .ok (.putfield 42, 3) := by decide +kernel
theorem dX10_init_67 : decode cX10_init 67 = .ok (.aload_n 0, 1) := by decide +kernel
theorem dX10_init_68 : decode cX10_init 68 = .ok (.new 39, 3) := by decide +kernel
theorem dX10_init_71 : decode cX10_init 71 = .ok (.dup, 1) := by decide +kernel
theorem dX10_init_72 : decode cX10_init 72 = .ok (.invokespecial 41, 3) := by decide +kernel
theorem dX10_init_75 : decode cX10_init 75 = .ok (.putfield 46, 3) := by decide +kernel
theorem dX10_init_78 : decode cX10_init 78 = .ok (.aload_n 0, 1) := by decide +kernel
theorem dX10_init_79 : decode cX10_init 79 = .ok (.iconst 4, 1) := by decide +kernel
theorem dX10_init_80 : decode cX10_init 80 = .ok (.anewarray 39, 3) := by decide +kernel
theorem dX10_init_83 : decode cX10_init 83 = .ok (.putfield 49, 3) := by decide +kernel
theorem dX10_init_86 : decode cX10_init 86 = .ok (.aload_n 0, 1) := by decide +kernel
theorem dX10_init_87 : decode cX10_init 87 = .ok (.bipush 6, 2) := by decide +kernel
theorem dX10_init_89 : decode cX10_init 89 = .ok (.anewarray 53, 3) := by decide +kernel
theorem dX10_init_92 : decode cX10_init 92 = .ok (.putfield 55, 3) := by decide +kernel
theorem dX10_init_95 : decode cX10_init 95 = .ok (.aload_n 0, 1) := by decide +kernel
theorem dX10_init_96 : decode cX10_init 96 = .ok (.iconst 0, 1) := by decide +kernel
theorem dX10_init_97 : decode cX10_init 97 = .ok (.putfield 59, 3) := by decide +kernel
theorem dX10_init_100 : decode cX10_init 100 = .ok (.aload_n 0, 1) := by decide +kernel
theorem dX10_init_101 : decode cX10_init 101 = .ok (.new 63, 3) := by decide +kernel
theorem dX10_init_104 : decode cX10_init 104 = .ok (.dup, 1) := by decide +kernel
theorem dX10_init_105 : decode cX10_init 105 = .ok (.invokespecial 65, 3) := by decide +kernel
theorem dX10_init_108 : decode cX10_init 108 = .ok (.putfield 66, 3) := by decide +kernel
theorem dX10_init_111 : decode cX10_init 111 = .ok (.aload_n 0, 1) := by decide +kernel
theorem dX10_init_112 : decode cX10_init 112 = .ok (.new 70, 3) := by decide +kernel
theorem dX10_init_115 : decode cX10_init 115 = .ok (.dup, 1) := by decide +kernel
theorem dX10_init_116 : decode cX10_init 116 = .ok (.invokespecial 72, 3) := by decide +kernel
theorem dX10_init_119 : decode cX10_init 119 = .ok (.putfield 73, 3) := by decide +kernel
theorem dX10_init_122 : decode cX10_init 122 = .ok (.aload_n 0, 1) := by decide +kernel
theorem dX10_init_123 : decode cX10_init 123 = .ok (.new 77, 3) := by decide +kernel
theorem dX10_init_126 : decode cX10_init 126 = .ok (.dup, 1) := by decide +kernel
theorem dX10_init_127 : decode cX10_init 127 = .ok (.aload_n 0, 1) := by decide +kernel
theorem dX10_init_128 : decode cX10_init 128 = .ok (.getfield 73, 3) := by decide +kernel
theorem dX10_init_131 : decode cX10_init 131 = .ok (.invokespecial 79, 3) := by decide +kernel
theorem dX10_init_134 : decode cX10_init 134 = .ok (.putfield 82, 3) := by decide +kernel
theorem dX10_init_137 : decode cX10_init 137 = .ok (.aload_n 0, 1) := by decide +kernel
theorem dX10_init_138 : decode cX10_init 138 = .ok (.new 86, 3) := by decide +kernel
theorem dX10_init_141 : decode cX10_init 141 = .ok (.dup, 1) := by decide +kernel
theorem dX10_init_142 : decode cX10_init 142 = .ok (.aload_n 0, 1) := by decide +kernel
theorem dX10_init_143 : decode cX10_init 143 = .ok (.getfield 42, 3) := by decide +kernel
theorem dX10_init_146 : decode cX10_init 146 = .ok (.aload_n 0, 1) := by decide +kernel
theorem dX10_init_147 : decode cX10_init 147 = .ok (.getfield 66, 3) := by decide +kernel
theorem dX10_init_150 : decode cX10_init 150 = .ok (.aload_n 0, 1) := by decide +kernel
theorem dX10_init_151 : decode cX10_init 151 = .ok (.getfield 73, 3) := by decide +kernel
theorem dX10_init_154 : decode cX10_init 154 = .ok (.invokespecial 88, 3) := by decide +kernel
theorem dX10_init_157 : decode cX10_init 157 = .ok (.putfield 91, 3) := by decide +kernel
theorem dX10_init_160 : decode cX10_init 160 = .ok (.aload_n 0, 1) := by decide +kernel
theorem dX10_init_161 : decode cX10_init 161 = .ok (.bipush 12, 2) := by decide +kernel
theorem dX10_init_163 : decode cX10_init 163 = .ok (.newarray .int, 2) := by decide +kernel
theorem dX10_init_165 : decode cX10_init 165 = .ok (.putfield 95, 3) := by decide +kernel
theorem dX10_init_168 : decode cX10_init 168 = .ok (.iconst 0, 1) := by decide +kernel
theorem dX10_init_169 : decode cX10_init 169 = .ok (.istore_n 1, 1) := by decide +kernel
theorem dX10_init_170 : decode cX10_init 170 = .ok (.iload_n 1, 1) := by decide +kernel
theorem dX10_init_171 : decode cX10_init 171 = .ok (.bipush 6, 2) := by decide +kernel
theorem dX10_init_173 : decode cX10_init 173 = .ok (.if_icmp .ge 22, 3) := by decide +kernel
theorem dX10_init_176 : decode cX10_init 176 = .ok (.aload_n 0, 1) := by decide +kernel
theorem dX10_init_177 : decode cX10_init 177 = .ok (.getfield 55, 3) := by decide +kernel
theorem dX10_init_180 : decode cX10_init 180 = .ok (.iload_n 1, 1) := by decide +kernel
theorem dX10_init_181 : decode cX10_init 181 = .ok (.new 53, 3) := by decide +kernel
theorem dX10_init_184 : decode cX10_init 184 = .ok (.dup, 1) := by decide +kernel
theorem dX10_init_185 : decode cX10_init 185 = .ok (.invokespecial 99, 3) := by decide +kernel
theorem dX10_init_188 : decode cX10_init 188 = .ok (.aastore, 1) := by decide +kernel
theorem dX10_init_189 : decode cX10_init 189 = .ok (.iinc 1 1, 3) := by decide +kernel
theorem dX10_init_192 : decode cX10_init 192 = .ok (.goto (-22), 3) := by decide +kernel
theorem dX10_init_195 : decode cX10_init 195 = .ok (.return_, 1) := by decide +kernel
theorem dX10_feed_0 : decode cX10_feed 0 = .ok (.aload_n 0, 1) := by decide +kernel
theorem dX10_feed_1 : decode cX10_feed 1 = .ok (.getfield 10, 3) := by decide +kernel
theorem dX10_feed_4 : decode cX10_feed 4 = .ok (.getfield 100, 3) := by decide +kernel
theorem dX10_feed_7 : decode cX10_feed 7 = .ok (.bipush 20, 2) := by decide +kernel
theorem dX10_feed_9 : decode cX10_feed 9 = .ok (.iadd, 1) := by decide +kernel
theorem dX10_feed_10 : decode cX10_feed 10 = .ok (.sipush 400, 3) := by decide +kernel
theorem dX10_feed_13 : decode cX10_feed 13 = .ok (.if_icmp .le 5, 3) := by decide +kernel
theorem dX10_feed_16 : decode cX10_feed 16 = .ok (.iconst (-1), 1) := by decide +kernel
theorem dX10_feed_17 : decode cX10_feed 17 = .ok (.ireturn, 1) := by decide +kernel
theorem dX10_feed_18 : decode cX10_feed 18 = .ok (.aload_n 0, 1) := by decide +kernel
theorem dX10_feed_19 : decode cX10_feed 19 = .ok (.getfield 10, 3) := by decide +kernel
theorem dX10_feed_22 : decode cX10_feed 22 = .ok (.iload_n 1, 1) := by decide +kernel
theorem dX10_feed_23 : decode cX10_feed 23 = .ok (.invokevirtual 103, 3) := by decide +kernel
theorem dX10_feed_26 : decode cX10_feed 26 = .ok (.aload_n 0, 1) := by decide +kernel
theorem dX10_feed_27 : decode cX10_feed 27 = .ok (.getfield 10, 3) := by decide +kernel
theorem dX10_feed_30 : decode cX10_feed 30 = .ok (.iload_n 2, 1) := by decide +kernel
theorem dX10_feed_31 : decode cX10_feed 31 = .ok (.invokevirtual 103, 3) := by decide +kernel
theorem dX10_feed_34 : decode cX10_feed 34 = .ok (.aload_n 0, 1) := by decide +kernel
theorem dX10_feed_35 : decode cX10_feed 35 = .ok (.getfield 10, 3) := by decide +kernel
theorem dX10_feed_38 : decode cX10_feed 38 = .ok (.iload_n 3, 1) := by decide +kernel
theorem dX10_feed_39 : decode cX10_feed 39 = .ok (.invokevirtual 103, 3) := by decide +kernel
theorem dX10_feed_42 : decode cX10_feed 42 = .ok (.aload_n 0, 1) := by decide +kernel
theorem dX10_feed_43 : decode cX10_feed 43 = .ok (.getfield 10, 3) := by decide +kernel
theorem dX10_feed_46 : decode cX10_feed 46 = .ok (.iload 4, 2) := by decide +kernel
theorem dX10_feed_48 : decode cX10_feed 48 = .ok (.invokevirtual 103, 3) := by decide +kernel
theorem dX10_feed_51 : decode cX10_feed 51 = .ok (.aload_n 0, 1) := by decide +kernel
theorem dX10_feed_52 : decode cX10_feed 52 = .ok (.getfield 10, 3) := by decide +kernel
theorem dX10_feed_55 : decode cX10_feed 55 = .ok (.iload 5, 2) := by decide +kernel
theorem dX10_feed_57 : decode cX10_feed 57 = .ok (.invokevirtual 103, 3) := by decide +kernel
theorem dX10_feed_60 : decode cX10_feed 60 = .ok (.aload_n 0, 1) := by decide +kernel
theorem dX10_feed_61 : decode cX10_feed 61 = .ok (.getfield 10, 3) := by decide +kernel
theorem dX10_feed_64 : decode cX10_feed 64 = .ok (.getfield 100, 3) := by decide +kernel
theorem dX10_feed_67 : decode cX10_feed 67 = .ok (.ireturn, 1) := by decide +kernel
theorem dX10_end_0 : decode cX10_end 0 = .ok (.iload_n 1, 1) := by decide +kernel
theorem dX10_end_1 : decode cX10_end 1 = .ok (.ifCond .lt 14, 3) := by decide +kernel
theorem dX10_end_4 : decode cX10_end 4 = .ok (.iload_n 1, 1) := by decide +kernel
theorem dX10_end_5 : decode cX10_end 5 = .ok (.aload_n 0, 1) := by decide +kernel
theorem dX10_end_6 : decode cX10_end 6 = .ok (.getfield 10, 3) := by decide +kernel
theorem dX10_end_9 : decode cX10_end 9 = .ok (.getfield 100, 3) := by decide +kernel
theorem dX10_end_12 : decode cX10_end 12 = .ok (.if_icmp .le 5, 3) := by decide +kernel
theorem dX10_end_15 : decode cX10_end 15 = .ok (.iconst (-1), 1) := by decide +kernel
theorem dX10_end_16 : decode cX10_end 16 = .ok (.ireturn, 1) := by decide +kernel
theorem dX10_end_17 : decode cX10_end 17 = .ok (.aload_n 0, 1) := by decide +kernel
theorem dX10_end_18 : decode cX10_end 18 = .ok (.getfield 10, 3) := by decide +kernel
theorem dX10_end_21 : decode cX10_end 21 = .ok (.iload_n 1, 1) := by decide +kernel
theorem dX10_end_22 : decode cX10_end 22 = .ok (.putfield 100, 3) := by decide +kernel
theorem dX10_end_25 : decode cX10_end 25 = .ok (.iload_n 1, 1) := by decide +kernel
theorem dX10_end_26 : decode cX10_end 26 = .ok (.ireturn, 1) := by decide +kernel
theorem dX10_valley_0 : decode cX10_valley 0 = .ok (.aload_n 0, 1) := by decide +kernel
theorem dX10_valley_1 : decode cX10_valley 1 = .ok (.getfield 19, 3) := by decide +kernel
theorem dX10_valley_4 : decode cX10_valley 4 = .ok (.aload_n 0, 1) := by decide +kernel
theorem dX10_valley_5 : decode cX10_valley 5 = .ok (.getfield 10, 3) := by decide +kernel
theorem dX10_valley_8 : decode cX10_valley 8 = .ok (.invokevirtual 107, 3) := by decide +kernel
theorem dX10_valley_11 : decode cX10_valley 11 = .ok (.aload_n 0, 1) := by decide +kernel
theorem dX10_valley_12 : decode cX10_valley 12 = .ok (.getfield 10, 3) := by decide +kernel
theorem dX10_valley_15 : decode cX10_valley 15 = .ok (.iconst 0, 1) := by decide +kernel
theorem dX10_valley_16 : decode cX10_valley 16 = .ok (.putfield 100, 3) := by decide +kernel
theorem dX10_valley_19 : decode cX10_valley 19 = .ok (.aload_n 0, 1) := by decide +kernel
theorem dX10_valley_20 : decode cX10_valley 20 = .ok (.getfield 28, 3) := by decide +kernel
theorem dX10_valley_23 : decode cX10_valley 23 = .ok (.aload_n 0, 1) := by decide +kernel
theorem dX10_valley_24 : decode cX10_valley 24 = .ok (.getfield 46, 3) := by decide +kernel
theorem dX10_valley_27 : decode cX10_valley 27 = .ok (.invokevirtual 111, 3) := by decide +kernel
theorem dX10_valley_30 : decode cX10_valley 30 = .ok (.ifCond .ne 14, 3) := by decide +kernel
theorem dX10_valley_33 : decode cX10_valley 33 = .ok (.bipush (-2), 2) := by decide +kernel
theorem dX10_valley_35 : decode cX10_valley 35 = .ok (.aload_n 0, 1) := by decide +kernel
theorem dX10_valley_36 : decode cX10_valley 36 = .ok (.getfield 19, 3) := by decide +kernel
theorem dX10_valley_39 : decode cX10_valley 39 = .ok (.getfield 115, 3) := by decide +kernel
theorem dX10_valley_42 : decode cX10_valley 42 = .ok (.isub, 1) := by decide +kernel
theorem dX10_valley_43 : decode cX10_valley 43 = .ok (.ireturn, 1) := by decide +kernel
theorem dX10_valley_44 : decode cX10_valley 44 = .ok (.aload_n 0, 1) := by decide +kernel
theorem dX10_valley_45 : decode cX10_valley 45 = .ok (.getfield 46, 3) := by decide +kernel
theorem dX10_valley_48 : decode cX10_valley 48 = .ok (.invokevirtual 118, 3) := by decide +kernel
theorem dX10_valley_51 : decode cX10_valley 51 = .ok (.aload_n 0, 1) := by decide +kernel
theorem dX10_valley_52 : decode cX10_valley 52 = .ok (.getfield 46, 3) := by decide +kernel
theorem dX10_valley_55 : decode cX10_valley 55 = .ok (.aload_n 0, 1) := by decide +kernel
theorem dX10_valley_56 : decode cX10_valley 56 = .ok (.getfield 42, 3) := by decide +kernel
theorem dX10_valley_59 : decode cX10_valley 59 = .ok (.getfield 121, 3) := by decide +kernel
theorem dX10_valley_62 : decode cX10_valley 62 = .ok (.putfield 121, 3) := by decide +kernel
theorem dX10_valley_65 : decode cX10_valley 65 = .ok (.aload_n 0, 1) := by decide +kernel
theorem dX10_valley_66 : decode cX10_valley 66 = .ok (.getfield 42, 3) := by decide +kernel
theorem dX10_valley_69 : decode cX10_valley 69 = .ok (.aload_n 0, 1) := by decide +kernel
theorem dX10_valley_70 : decode cX10_valley 70 = .ok (.getfield 46, 3) := by decide +kernel
theorem dX10_valley_73 : decode cX10_valley 73 = .ok (.invokevirtual 124, 3) := by decide +kernel
theorem dX10_valley_76 : decode cX10_valley 76 = .ok (.aload_n 0, 1) := by decide +kernel
theorem dX10_valley_77 : decode cX10_valley 77 = .ok (.getfield 42, 3) := by decide +kernel
theorem dX10_valley_80 : decode cX10_valley 80 = .ok (.getfield 128, 3) := by decide +kernel
theorem dX10_valley_83 : decode cX10_valley 83 = .ok (.ireturn, 1) := by decide +kernel
theorem dX10_law_0 : decode cX10_law 0 = .ok (.aload_n 0, 1) := by decide +kernel
theorem dX10_law_1 : decode cX10_law 1 = .ok (.getfield 59, 3) := by decide +kernel
theorem dX10_law_4 : decode cX10_law 4 = .ok (.bipush 6, 2) := by decide +kernel
theorem dX10_law_6 : decode cX10_law 6 = .ok (.if_icmp .lt 5, 3) := by decide +kernel
theorem dX10_law_9 : decode cX10_law 9 = .ok (.iconst (-1), 1) := by decide +kernel
theorem dX10_law_10 : decode cX10_law 10 = .ok (.ireturn, 1) := by decide +kernel
theorem dX10_law_11 : decode cX10_law 11 = .ok (.aload_n 0, 1) := by decide +kernel
theorem dX10_law_12 : decode cX10_law 12 = .ok (.getfield 19, 3) := by decide +kernel
theorem dX10_law_15 : decode cX10_law 15 = .ok (.aload_n 0, 1) := by decide +kernel
theorem dX10_law_16 : decode cX10_law 16 = .ok (.getfield 10, 3) := by decide +kernel
theorem dX10_law_19 : decode cX10_law 19 = .ok (.invokevirtual 107, 3) := by decide +kernel
theorem dX10_law_22 : decode cX10_law 22 = .ok (.aload_n 0, 1) := by decide +kernel
theorem dX10_law_23 : decode cX10_law 23 = .ok (.getfield 10, 3) := by decide +kernel
theorem dX10_law_26 : decode cX10_law 26 = .ok (.iconst 0, 1) := by decide +kernel
theorem dX10_law_27 : decode cX10_law 27 = .ok (.putfield 100, 3) := by decide +kernel
theorem dX10_law_30 : decode cX10_law 30 = .ok (.aload_n 0, 1) := by decide +kernel
theorem dX10_law_31 : decode cX10_law 31 = .ok (.getfield 35, 3) := by decide +kernel
theorem dX10_law_34 : decode cX10_law 34 = .ok (.aload_n 0, 1) := by decide +kernel
theorem dX10_law_35 : decode cX10_law 35 = .ok (.getfield 55, 3) := by decide +kernel
theorem dX10_law_38 : decode cX10_law 38 = .ok (.aload_n 0, 1) := by decide +kernel
theorem dX10_law_39 : decode cX10_law 39 = .ok (.getfield 59, 3) := by decide +kernel
theorem dX10_law_42 : decode cX10_law 42 = .ok (.aaload, 1) := by decide +kernel
theorem dX10_law_43 : decode cX10_law 43 = .ok (.invokevirtual 131, 3) := by decide +kernel
theorem dX10_law_46 : decode cX10_law 46 = .ok (.ifCond .ne 14, 3) := by decide +kernel
theorem dX10_law_49 : decode cX10_law 49 = .ok (.bipush (-2), 2) := by decide +kernel
theorem dX10_law_51 : decode cX10_law 51 = .ok (.aload_n 0, 1) := by decide +kernel
theorem dX10_law_52 : decode cX10_law 52 = .ok (.getfield 19, 3) := by decide +kernel
theorem dX10_law_55 : decode cX10_law 55 = .ok (.getfield 115, 3) := by decide +kernel
theorem dX10_law_58 : decode cX10_law 58 = .ok (.isub, 1) := by decide +kernel
theorem dX10_law_59 : decode cX10_law 59 = .ok (.ireturn, 1) := by decide +kernel
theorem dX10_law_60 : decode cX10_law 60 = .ok (.aload_n 0, 1) := by decide +kernel
theorem dX10_law_61 : decode cX10_law 61 = .ok (.dup, 1) := by decide +kernel
theorem dX10_law_62 : decode cX10_law 62 = .ok (.getfield 59, 3) := by decide +kernel
theorem dX10_law_65 : decode cX10_law 65 = .ok (.iconst 1, 1) := by decide +kernel
theorem dX10_law_66 : decode cX10_law 66 = .ok (.iadd, 1) := by decide +kernel
theorem dX10_law_67 : decode cX10_law 67 = .ok (.putfield 59, 3) := by decide +kernel
theorem dX10_law_70 : decode cX10_law 70 = .ok (.aload_n 0, 1) := by decide +kernel
theorem dX10_law_71 : decode cX10_law 71 = .ok (.getfield 59, 3) := by decide +kernel
theorem dX10_law_74 : decode cX10_law 74 = .ok (.iconst 1, 1) := by decide +kernel
theorem dX10_law_75 : decode cX10_law 75 = .ok (.isub, 1) := by decide +kernel
theorem dX10_law_76 : decode cX10_law 76 = .ok (.ireturn, 1) := by decide +kernel
theorem dX10_cock_0 : decode cX10_cock 0 = .ok (.aload_n 0, 1) := by decide +kernel
theorem dX10_cock_1 : decode cX10_cock 1 = .ok (.getfield 42, 3) := by decide +kernel
theorem dX10_cock_4 : decode cX10_cock 4 = .ok (.iload_n 1, 1) := by decide +kernel
theorem dX10_cock_5 : decode cX10_cock 5 = .ok (.invokevirtual 134, 3) := by decide +kernel
theorem dX10_cock_8 : decode cX10_cock 8 = .ok (.ifCond .ne 5, 3) := by decide +kernel
theorem dX10_cock_11 : decode cX10_cock 11 = .ok (.iconst (-1), 1) := by decide +kernel
theorem dX10_cock_12 : decode cX10_cock 12 = .ok (.ireturn, 1) := by decide +kernel
theorem dX10_cock_13 : decode cX10_cock 13 = .ok (.iload_n 2, 1) := by decide +kernel
theorem dX10_cock_14 : decode cX10_cock 14 = .ok (.tableswitch 112 0 6 #[42, 52, 62, 72, 82, 92, 102], 42) := by decide +kernel
theorem dX10_cock_56 : decode cX10_cock 56 = .ok (.aload_n 0, 1) := by decide +kernel
theorem dX10_cock_57 : decode cX10_cock 57 = .ok (.getfield 42, 3) := by decide +kernel
theorem dX10_cock_60 : decode cX10_cock 60 = .ok (.getfield 138, 3) := by decide +kernel
theorem dX10_cock_63 : decode cX10_cock 63 = .ok (.iload_n 1, 1) := by decide +kernel
theorem dX10_cock_64 : decode cX10_cock 64 = .ok (.iaload, 1) := by decide +kernel
theorem dX10_cock_65 : decode cX10_cock 65 = .ok (.ireturn, 1) := by decide +kernel
theorem dX10_cock_66 : decode cX10_cock 66 = .ok (.aload_n 0, 1) := by decide +kernel
theorem dX10_cock_67 : decode cX10_cock 67 = .ok (.getfield 42, 3) := by decide +kernel
theorem dX10_cock_70 : decode cX10_cock 70 = .ok (.getfield 141, 3) := by decide +kernel
theorem dX10_cock_73 : decode cX10_cock 73 = .ok (.iload_n 1, 1) := by decide +kernel
theorem dX10_cock_74 : decode cX10_cock 74 = .ok (.iaload, 1) := by decide +kernel
theorem dX10_cock_75 : decode cX10_cock 75 = .ok (.ireturn, 1) := by decide +kernel
theorem dX10_cock_76 : decode cX10_cock 76 = .ok (.aload_n 0, 1) := by decide +kernel
theorem dX10_cock_77 : decode cX10_cock 77 = .ok (.getfield 42, 3) := by decide +kernel
theorem dX10_cock_80 : decode cX10_cock 80 = .ok (.getfield 144, 3) := by decide +kernel
theorem dX10_cock_83 : decode cX10_cock 83 = .ok (.iload_n 1, 1) := by decide +kernel
theorem dX10_cock_84 : decode cX10_cock 84 = .ok (.iaload, 1) := by decide +kernel
theorem dX10_cock_85 : decode cX10_cock 85 = .ok (.ireturn, 1) := by decide +kernel
theorem dX10_cock_86 : decode cX10_cock 86 = .ok (.aload_n 0, 1) := by decide +kernel
theorem dX10_cock_87 : decode cX10_cock 87 = .ok (.getfield 42, 3) := by decide +kernel
theorem dX10_cock_90 : decode cX10_cock 90 = .ok (.getfield 147, 3) := by decide +kernel
theorem dX10_cock_93 : decode cX10_cock 93 = .ok (.iload_n 1, 1) := by decide +kernel
theorem dX10_cock_94 : decode cX10_cock 94 = .ok (.iaload, 1) := by decide +kernel
theorem dX10_cock_95 : decode cX10_cock 95 = .ok (.ireturn, 1) := by decide +kernel
theorem dX10_cock_96 : decode cX10_cock 96 = .ok (.aload_n 0, 1) := by decide +kernel
theorem dX10_cock_97 : decode cX10_cock 97 = .ok (.getfield 42, 3) := by decide +kernel
theorem dX10_cock_100 : decode cX10_cock 100 = .ok (.getfield 150, 3) := by decide +kernel
theorem dX10_cock_103 : decode cX10_cock 103 = .ok (.iload_n 1, 1) := by decide +kernel
theorem dX10_cock_104 : decode cX10_cock 104 = .ok (.iaload, 1) := by decide +kernel
theorem dX10_cock_105 : decode cX10_cock 105 = .ok (.ireturn, 1) := by decide +kernel
theorem dX10_cock_106 : decode cX10_cock 106 = .ok (.aload_n 0, 1) := by decide +kernel
theorem dX10_cock_107 : decode cX10_cock 107 = .ok (.getfield 42, 3) := by decide +kernel
theorem dX10_cock_110 : decode cX10_cock 110 = .ok (.getfield 153, 3) := by decide +kernel
theorem dX10_cock_113 : decode cX10_cock 113 = .ok (.iload_n 1, 1) := by decide +kernel
theorem dX10_cock_114 : decode cX10_cock 114 = .ok (.iaload, 1) := by decide +kernel
theorem dX10_cock_115 : decode cX10_cock 115 = .ok (.ireturn, 1) := by decide +kernel
theorem dX10_cock_116 : decode cX10_cock 116 = .ok (.aload_n 0, 1) := by decide +kernel
theorem dX10_cock_117 : decode cX10_cock 117 = .ok (.getfield 42, 3) := by decide +kernel
theorem dX10_cock_120 : decode cX10_cock 120 = .ok (.getfield 156, 3) := by decide +kernel
theorem dX10_cock_123 : decode cX10_cock 123 = .ok (.iload_n 1, 1) := by decide +kernel
theorem dX10_cock_124 : decode cX10_cock 124 = .ok (.iaload, 1) := by decide +kernel
theorem dX10_cock_125 : decode cX10_cock 125 = .ok (.ireturn, 1) := by decide +kernel
theorem dX10_cock_126 : decode cX10_cock 126 = .ok (.iconst (-1), 1) := by decide +kernel
theorem dX10_cock_127 : decode cX10_cock 127 = .ok (.ireturn, 1) := by decide +kernel
theorem dX10_tree_0 : decode cX10_tree 0 = .ok (.aload_n 0, 1) := by decide +kernel
theorem dX10_tree_1 : decode cX10_tree 1 = .ok (.getfield 42, 3) := by decide +kernel
theorem dX10_tree_4 : decode cX10_tree 4 = .ok (.iload_n 1, 1) := by decide +kernel
theorem dX10_tree_5 : decode cX10_tree 5 = .ok (.invokevirtual 159, 3) := by decide +kernel
theorem dX10_tree_8 : decode cX10_tree 8 = .ok (.ifCond .ne 5, 3) := by decide +kernel
theorem dX10_tree_11 : decode cX10_tree 11 = .ok (.iconst (-1), 1) := by decide +kernel
theorem dX10_tree_12 : decode cX10_tree 12 = .ok (.ireturn, 1) := by decide +kernel
theorem dX10_tree_13 : decode cX10_tree 13 = .ok (.iload_n 2, 1) := by decide +kernel
theorem dX10_tree_14 : decode cX10_tree 14 = .ok (.tableswitch 58 0 2 #[26, 36, 46], 26) := by decide +kernel
theorem dX10_tree_40 : decode cX10_tree 40 = .ok (.aload_n 0, 1) := by decide +kernel
theorem dX10_tree_41 : decode cX10_tree 41 = .ok (.getfield 42, 3) := by decide +kernel
theorem dX10_tree_44 : decode cX10_tree 44 = .ok (.getfield 162, 3) := by decide +kernel
theorem dX10_tree_47 : decode cX10_tree 47 = .ok (.iload_n 1, 1) := by decide +kernel
theorem dX10_tree_48 : decode cX10_tree 48 = .ok (.iaload, 1) := by decide +kernel
theorem dX10_tree_49 : decode cX10_tree 49 = .ok (.ireturn, 1) := by decide +kernel
theorem dX10_tree_50 : decode cX10_tree 50 = .ok (.aload_n 0, 1) := by decide +kernel
theorem dX10_tree_51 : decode cX10_tree 51 = .ok (.getfield 42, 3) := by decide +kernel
theorem dX10_tree_54 : decode cX10_tree 54 = .ok (.getfield 165, 3) := by decide +kernel
theorem dX10_tree_57 : decode cX10_tree 57 = .ok (.iload_n 1, 1) := by decide +kernel
theorem dX10_tree_58 : decode cX10_tree 58 = .ok (.iaload, 1) := by decide +kernel
theorem dX10_tree_59 : decode cX10_tree 59 = .ok (.ireturn, 1) := by decide +kernel
theorem dX10_tree_60 : decode cX10_tree 60 = .ok (.aload_n 0, 1) := by decide +kernel
theorem dX10_tree_61 : decode cX10_tree 61 = .ok (.getfield 42, 3) := by decide +kernel
theorem dX10_tree_64 : decode cX10_tree 64 = .ok (.getfield 168, 3) := by decide +kernel
theorem dX10_tree_67 : decode cX10_tree 67 = .ok (.iload_n 1, 1) := by decide +kernel
theorem dX10_tree_68 : decode cX10_tree 68 = .ok (.ishr, 1) := by decide +kernel
theorem dX10_tree_69 : decode cX10_tree 69 = .ok (.iconst 1, 1) := by decide +kernel
theorem dX10_tree_70 : decode cX10_tree 70 = .ok (.iand, 1) := by decide +kernel
theorem dX10_tree_71 : decode cX10_tree 71 = .ok (.ireturn, 1) := by decide +kernel
theorem dX10_tree_72 : decode cX10_tree 72 = .ok (.iconst (-1), 1) := by decide +kernel
theorem dX10_tree_73 : decode cX10_tree 73 = .ok (.ireturn, 1) := by decide +kernel
theorem dX10_worth_0 : decode cX10_worth 0 = .ok (.aload_n 0, 1) := by decide +kernel
theorem dX10_worth_1 : decode cX10_worth 1 = .ok (.invokevirtual 171, 3) := by decide +kernel
theorem dX10_worth_4 : decode cX10_worth 4 = .ok (.ifCond .eq 20, 3) := by decide +kernel
theorem dX10_worth_7 : decode cX10_worth 7 = .ok (.iload_n 1, 1) := by decide +kernel
theorem dX10_worth_8 : decode cX10_worth 8 = .ok (.iconst 4, 1) := by decide +kernel
theorem dX10_worth_9 : decode cX10_worth 9 = .ok (.invokestatic 175, 3) := by decide +kernel
theorem dX10_worth_12 : decode cX10_worth 12 = .ok (.ifCond .eq 12, 3) := by decide +kernel
theorem dX10_worth_15 : decode cX10_worth 15 = .ok (.iload_n 2, 1) := by decide +kernel
theorem dX10_worth_16 : decode cX10_worth 16 = .ok (.bipush 8, 2) := by decide +kernel
theorem dX10_worth_18 : decode cX10_worth 18 = .ok (.invokestatic 175, 3) := by decide +kernel
theorem dX10_worth_21 : decode cX10_worth 21 = .ok (.ifCond .ne 5, 3) := by decide +kernel
theorem dX10_worth_24 : decode cX10_worth 24 = .ok (.iconst (-1), 1) := by decide +kernel
theorem dX10_worth_25 : decode cX10_worth 25 = .ok (.ireturn, 1) := by decide +kernel
theorem dX10_worth_26 : decode cX10_worth 26 = .ok (.aload_n 0, 1) := by decide +kernel
theorem dX10_worth_27 : decode cX10_worth 27 = .ok (.getfield 42, 3) := by decide +kernel
theorem dX10_worth_30 : decode cX10_worth 30 = .ok (.iload_n 1, 1) := by decide +kernel
theorem dX10_worth_31 : decode cX10_worth 31 = .ok (.iload_n 2, 1) := by decide +kernel
theorem dX10_worth_32 : decode cX10_worth 32 = .ok (.invokevirtual 179, 3) := by decide +kernel
theorem dX10_worth_35 : decode cX10_worth 35 = .ok (.ireturn, 1) := by decide +kernel
theorem dX10_lee_0 : decode cX10_lee 0 = .ok (.aload_n 0, 1) := by decide +kernel
theorem dX10_lee_1 : decode cX10_lee 1 = .ok (.getfield 42, 3) := by decide +kernel
theorem dX10_lee_4 : decode cX10_lee 4 = .ok (.iload_n 1, 1) := by decide +kernel
theorem dX10_lee_5 : decode cX10_lee 5 = .ok (.invokevirtual 134, 3) := by decide +kernel
theorem dX10_lee_8 : decode cX10_lee 8 = .ok (.ifCond .eq 12, 3) := by decide +kernel
theorem dX10_lee_11 : decode cX10_lee 11 = .ok (.iload_n 2, 1) := by decide +kernel
theorem dX10_lee_12 : decode cX10_lee 12 = .ok (.bipush 8, 2) := by decide +kernel
theorem dX10_lee_14 : decode cX10_lee 14 = .ok (.invokestatic 175, 3) := by decide +kernel
theorem dX10_lee_17 : decode cX10_lee 17 = .ok (.ifCond .ne 5, 3) := by decide +kernel
theorem dX10_lee_20 : decode cX10_lee 20 = .ok (.iconst (-1), 1) := by decide +kernel
theorem dX10_lee_21 : decode cX10_lee 21 = .ok (.ireturn, 1) := by decide +kernel
theorem dX10_lee_22 : decode cX10_lee 22 = .ok (.aload_n 0, 1) := by decide +kernel
theorem dX10_lee_23 : decode cX10_lee 23 = .ok (.getfield 42, 3) := by decide +kernel
theorem dX10_lee_26 : decode cX10_lee 26 = .ok (.iload_n 1, 1) := by decide +kernel
theorem dX10_lee_27 : decode cX10_lee 27 = .ok (.iload_n 2, 1) := by decide +kernel
theorem dX10_lee_28 : decode cX10_lee 28 = .ok (.aload_n 0, 1) := by decide +kernel
theorem dX10_lee_29 : decode cX10_lee 29 = .ok (.getfield 42, 3) := by decide +kernel
theorem dX10_lee_32 : decode cX10_lee 32 = .ok (.getfield 168, 3) := by decide +kernel
theorem dX10_lee_35 : decode cX10_lee 35 = .ok (.invokevirtual 183, 3) := by decide +kernel
theorem dX10_lee_38 : decode cX10_lee 38 = .ok (.ireturn, 1) := by decide +kernel
theorem dX10_blow_0 : decode cX10_blow 0 = .ok (.aload_n 0, 1) := by decide +kernel
theorem dX10_blow_1 : decode cX10_blow 1 = .ok (.iload_n 1, 1) := by decide +kernel
theorem dX10_blow_2 : decode cX10_blow 2 = .ok (.iload_n 2, 1) := by decide +kernel
theorem dX10_blow_3 : decode cX10_blow 3 = .ok (.iload_n 3, 1) := by decide +kernel
theorem dX10_blow_4 : decode cX10_blow 4 = .ok (.invokevirtual 187, 3) := by decide +kernel
theorem dX10_blow_7 : decode cX10_blow 7 = .ok (.ifCond .eq 8, 3) := by decide +kernel
theorem dX10_blow_10 : decode cX10_blow 10 = .ok (.iload_n 3, 1) := by decide +kernel
theorem dX10_blow_11 : decode cX10_blow 11 = .ok (.iconst 1, 1) := by decide +kernel
theorem dX10_blow_12 : decode cX10_blow 12 = .ok (.if_icmp .ge 5, 3) := by decide +kernel
theorem dX10_blow_15 : decode cX10_blow 15 = .ok (.iconst (-1), 1) := by decide +kernel
theorem dX10_blow_16 : decode cX10_blow 16 = .ok (.ireturn, 1) := by decide +kernel
theorem dX10_blow_17 : decode cX10_blow 17 = .ok (.aload_n 0, 1) := by decide +kernel
theorem dX10_blow_18 : decode cX10_blow 18 = .ok (.getfield 66, 3) := by decide +kernel
theorem dX10_blow_21 : decode cX10_blow 21 = .ok (.aload_n 0, 1) := by decide +kernel
theorem dX10_blow_22 : decode cX10_blow 22 = .ok (.getfield 55, 3) := by decide +kernel
theorem dX10_blow_25 : decode cX10_blow 25 = .ok (.iload_n 1, 1) := by decide +kernel
theorem dX10_blow_26 : decode cX10_blow 26 = .ok (.aaload, 1) := by decide +kernel
theorem dX10_blow_27 : decode cX10_blow 27 = .ok (.aload_n 0, 1) := by decide +kernel
theorem dX10_blow_28 : decode cX10_blow 28 = .ok (.getfield 42, 3) := by decide +kernel
theorem dX10_blow_31 : decode cX10_blow 31 = .ok (.iload_n 2, 1) := by decide +kernel
theorem dX10_blow_32 : decode cX10_blow 32 = .ok (.iload_n 3, 1) := by decide +kernel
theorem dX10_blow_33 : decode cX10_blow 33 = .ok (.aload_n 0, 1) := by decide +kernel
theorem dX10_blow_34 : decode cX10_blow 34 = .ok (.getfield 42, 3) := by decide +kernel
theorem dX10_blow_37 : decode cX10_blow 37 = .ok (.getfield 168, 3) := by decide +kernel
theorem dX10_blow_40 : decode cX10_blow 40 = .ok (.aload_n 0, 1) := by decide +kernel
theorem dX10_blow_41 : decode cX10_blow 41 = .ok (.getfield 95, 3) := by decide +kernel
theorem dX10_blow_44 : decode cX10_blow 44 = .ok (.invokevirtual 191, 3) := by decide +kernel
theorem dX10_blow_47 : decode cX10_blow 47 = .ok (.iconst 0, 1) := by decide +kernel
theorem dX10_blow_48 : decode cX10_blow 48 = .ok (.istore 4, 2) := by decide +kernel
theorem dX10_blow_50 : decode cX10_blow 50 = .ok (.iconst 0, 1) := by decide +kernel
theorem dX10_blow_51 : decode cX10_blow 51 = .ok (.istore 5, 2) := by decide +kernel
theorem dX10_blow_53 : decode cX10_blow 53 = .ok (.iload 5, 2) := by decide +kernel
theorem dX10_blow_55 : decode cX10_blow 55 = .ok (.aload_n 0, 1) := by decide +kernel
theorem dX10_blow_56 : decode cX10_blow 56 = .ok (.getfield 42, 3) := by decide +kernel
theorem dX10_blow_59 : decode cX10_blow 59 = .ok (.getfield 128, 3) := by decide +kernel
theorem dX10_blow_62 : decode cX10_blow 62 = .ok (.if_icmp .ge 56, 3) := by decide +kernel
theorem dX10_blow_65 : decode cX10_blow 65 = .ok (.iload 5, 2) := by decide +kernel
theorem dX10_blow_67 : decode cX10_blow 67 = .ok (.bipush 12, 2) := by decide +kernel
theorem dX10_blow_69 : decode cX10_blow 69 = .ok (.if_icmp .ge 49, 3) := by decide +kernel
theorem dX10_blow_72 : decode cX10_blow 72 = .ok (.aload_n 0, 1) := by decide +kernel
theorem dX10_blow_73 : decode cX10_blow 73 = .ok (.getfield 95, 3) := by decide +kernel
theorem dX10_blow_76 : decode cX10_blow 76 = .ok (.iload 5, 2) := by decide +kernel
theorem dX10_blow_78 : decode cX10_blow 78 = .ok (.iaload, 1) := by decide +kernel
theorem dX10_blow_79 : decode cX10_blow 79 = .ok (.aload_n 0, 1) := by decide +kernel
theorem dX10_blow_80 : decode cX10_blow 80 = .ok (.getfield 42, 3) := by decide +kernel
theorem dX10_blow_83 : decode cX10_blow 83 = .ok (.getfield 153, 3) := by decide +kernel
theorem dX10_blow_86 : decode cX10_blow 86 = .ok (.iload 5, 2) := by decide +kernel
theorem dX10_blow_88 : decode cX10_blow 88 = .ok (.iaload, 1) := by decide +kernel
theorem dX10_blow_89 : decode cX10_blow 89 = .ok (.if_icmp .eq 6, 3) := by decide +kernel
theorem dX10_blow_92 : decode cX10_blow 92 = .ok (.iinc 4 1, 3) := by decide +kernel
theorem dX10_blow_95 : decode cX10_blow 95 = .ok (.aload_n 0, 1) := by decide +kernel
theorem dX10_blow_96 : decode cX10_blow 96 = .ok (.getfield 42, 3) := by decide +kernel
theorem dX10_blow_99 : decode cX10_blow 99 = .ok (.getfield 153, 3) := by decide +kernel
theorem dX10_blow_102 : decode cX10_blow 102 = .ok (.iload 5, 2) := by decide +kernel
theorem dX10_blow_104 : decode cX10_blow 104 = .ok (.aload_n 0, 1) := by decide +kernel
theorem dX10_blow_105 : decode cX10_blow 105 = .ok (.getfield 95, 3) := by decide +kernel
theorem dX10_blow_108 : decode cX10_blow 108 = .ok (.iload 5, 2) := by decide +kernel
theorem dX10_blow_110 : decode cX10_blow 110 = .ok (.iaload, 1) := by decide +kernel
theorem dX10_blow_111 : decode cX10_blow 111 = .ok (.iastore, 1) := by decide +kernel
theorem dX10_blow_112 : decode cX10_blow 112 = .ok (.iinc 5 1, 3) := by decide +kernel
theorem dX10_blow_115 : decode cX10_blow 115 = .ok (.goto (-62), 3) := by decide +kernel
theorem dX10_blow_118 : decode cX10_blow 118 = .ok (.iload 4, 2) := by decide +kernel
theorem dX10_blow_120 : decode cX10_blow 120 = .ok (.ireturn, 1) := by decide +kernel
theorem dX10_bend_0 : decode cX10_bend 0 = .ok (.aload_n 0, 1) := by decide +kernel
theorem dX10_bend_1 : decode cX10_bend 1 = .ok (.getfield 42, 3) := by decide +kernel
theorem dX10_bend_4 : decode cX10_bend 4 = .ok (.iload_n 1, 1) := by decide +kernel
theorem dX10_bend_5 : decode cX10_bend 5 = .ok (.invokevirtual 134, 3) := by decide +kernel
theorem dX10_bend_8 : decode cX10_bend 8 = .ok (.ifCond .eq 12, 3) := by decide +kernel
theorem dX10_bend_11 : decode cX10_bend 11 = .ok (.iload_n 2, 1) := by decide +kernel
theorem dX10_bend_12 : decode cX10_bend 12 = .ok (.bipush 8, 2) := by decide +kernel
theorem dX10_bend_14 : decode cX10_bend 14 = .ok (.invokestatic 175, 3) := by decide +kernel
theorem dX10_bend_17 : decode cX10_bend 17 = .ok (.ifCond .ne 5, 3) := by decide +kernel
theorem dX10_bend_20 : decode cX10_bend 20 = .ok (.iconst (-1), 1) := by decide +kernel
theorem dX10_bend_21 : decode cX10_bend 21 = .ok (.ireturn, 1) := by decide +kernel
theorem dX10_bend_22 : decode cX10_bend 22 = .ok (.aload_n 0, 1) := by decide +kernel
theorem dX10_bend_23 : decode cX10_bend 23 = .ok (.getfield 42, 3) := by decide +kernel
theorem dX10_bend_26 : decode cX10_bend 26 = .ok (.getfield 144, 3) := by decide +kernel
theorem dX10_bend_29 : decode cX10_bend 29 = .ok (.iload_n 1, 1) := by decide +kernel
theorem dX10_bend_30 : decode cX10_bend 30 = .ok (.iaload, 1) := by decide +kernel
theorem dX10_bend_31 : decode cX10_bend 31 = .ok (.aload_n 0, 1) := by decide +kernel
theorem dX10_bend_32 : decode cX10_bend 32 = .ok (.getfield 42, 3) := by decide +kernel
theorem dX10_bend_35 : decode cX10_bend 35 = .ok (.getfield 153, 3) := by decide +kernel
theorem dX10_bend_38 : decode cX10_bend 38 = .ok (.iload_n 1, 1) := by decide +kernel
theorem dX10_bend_39 : decode cX10_bend 39 = .ok (.iaload, 1) := by decide +kernel
theorem dX10_bend_40 : decode cX10_bend 40 = .ok (.iload_n 2, 1) := by decide +kernel
theorem dX10_bend_41 : decode cX10_bend 41 = .ok (.invokestatic 195, 3) := by decide +kernel
theorem dX10_bend_44 : decode cX10_bend 44 = .ok (.istore_n 3, 1) := by decide +kernel
theorem dX10_bend_45 : decode cX10_bend 45 = .ok (.aload_n 0, 1) := by decide +kernel
theorem dX10_bend_46 : decode cX10_bend 46 = .ok (.getfield 42, 3) := by decide +kernel
theorem dX10_bend_49 : decode cX10_bend 49 = .ok (.getfield 153, 3) := by decide +kernel
theorem dX10_bend_52 : decode cX10_bend 52 = .ok (.iload_n 1, 1) := by decide +kernel
theorem dX10_bend_53 : decode cX10_bend 53 = .ok (.iload_n 2, 1) := by decide +kernel
theorem dX10_bend_54 : decode cX10_bend 54 = .ok (.iastore, 1) := by decide +kernel
theorem dX10_bend_55 : decode cX10_bend 55 = .ok (.iload_n 3, 1) := by decide +kernel
theorem dX10_bend_56 : decode cX10_bend 56 = .ok (.ireturn, 1) := by decide +kernel
theorem dX10_oil_0 : decode cX10_oil 0 = .ok (.aload_n 0, 1) := by decide +kernel
theorem dX10_oil_1 : decode cX10_oil 1 = .ok (.iload_n 1, 1) := by decide +kernel
theorem dX10_oil_2 : decode cX10_oil 2 = .ok (.iconst 0, 1) := by decide +kernel
theorem dX10_oil_3 : decode cX10_oil 3 = .ok (.invokevirtual 198, 3) := by decide +kernel
theorem dX10_oil_6 : decode cX10_oil 6 = .ok (.ireturn, 1) := by decide +kernel
theorem dX10_rusts_0 : decode cX10_rusts 0 = .ok (.aload_n 0, 1) := by decide +kernel
theorem dX10_rusts_1 : decode cX10_rusts 1 = .ok (.getfield 42, 3) := by decide +kernel
theorem dX10_rusts_4 : decode cX10_rusts 4 = .ok (.iload_n 1, 1) := by decide +kernel
theorem dX10_rusts_5 : decode cX10_rusts 5 = .ok (.invokevirtual 134, 3) := by decide +kernel
theorem dX10_rusts_8 : decode cX10_rusts 8 = .ok (.ifCond .eq 12, 3) := by decide +kernel
theorem dX10_rusts_11 : decode cX10_rusts 11 = .ok (.iload_n 2, 1) := by decide +kernel
theorem dX10_rusts_12 : decode cX10_rusts 12 = .ok (.bipush 10, 2) := by decide +kernel
theorem dX10_rusts_14 : decode cX10_rusts 14 = .ok (.invokestatic 175, 3) := by decide +kernel
theorem dX10_rusts_17 : decode cX10_rusts 17 = .ok (.ifCond .ne 5, 3) := by decide +kernel
theorem dX10_rusts_20 : decode cX10_rusts 20 = .ok (.iconst (-1), 1) := by decide +kernel
theorem dX10_rusts_21 : decode cX10_rusts 21 = .ok (.ireturn, 1) := by decide +kernel
theorem dX10_rusts_22 : decode cX10_rusts 22 = .ok (.aload_n 0, 1) := by decide +kernel
theorem dX10_rusts_23 : decode cX10_rusts 23 = .ok (.getfield 42, 3) := by decide +kernel
theorem dX10_rusts_26 : decode cX10_rusts 26 = .ok (.getfield 144, 3) := by decide +kernel
theorem dX10_rusts_29 : decode cX10_rusts 29 = .ok (.iload_n 1, 1) := by decide +kernel
theorem dX10_rusts_30 : decode cX10_rusts 30 = .ok (.iaload, 1) := by decide +kernel
theorem dX10_rusts_31 : decode cX10_rusts 31 = .ok (.istore_n 3, 1) := by decide +kernel
theorem dX10_rusts_32 : decode cX10_rusts 32 = .ok (.aload_n 0, 1) := by decide +kernel
theorem dX10_rusts_33 : decode cX10_rusts 33 = .ok (.getfield 42, 3) := by decide +kernel
theorem dX10_rusts_36 : decode cX10_rusts 36 = .ok (.getfield 144, 3) := by decide +kernel
theorem dX10_rusts_39 : decode cX10_rusts 39 = .ok (.iload_n 1, 1) := by decide +kernel
theorem dX10_rusts_40 : decode cX10_rusts 40 = .ok (.iload_n 2, 1) := by decide +kernel
theorem dX10_rusts_41 : decode cX10_rusts 41 = .ok (.iastore, 1) := by decide +kernel
theorem dX10_rusts_42 : decode cX10_rusts 42 = .ok (.iload_n 3, 1) := by decide +kernel
theorem dX10_rusts_43 : decode cX10_rusts 43 = .ok (.ireturn, 1) := by decide +kernel
theorem dX10_fell_0 : decode cX10_fell 0 = .ok (.aload_n 0, 1) := by decide +kernel
theorem dX10_fell_1 : decode cX10_fell 1 = .ok (.getfield 42, 3) := by decide +kernel
theorem dX10_fell_4 : decode cX10_fell 4 = .ok (.iload_n 1, 1) := by decide +kernel
theorem dX10_fell_5 : decode cX10_fell 5 = .ok (.invokevirtual 159, 3) := by decide +kernel
theorem dX10_fell_8 : decode cX10_fell 8 = .ok (.ifCond .eq 26, 3) := by decide +kernel
theorem dX10_fell_11 : decode cX10_fell 11 = .ok (.aload_n 0, 1) := by decide +kernel
theorem dX10_fell_12 : decode cX10_fell 12 = .ok (.getfield 42, 3) := by decide +kernel
theorem dX10_fell_15 : decode cX10_fell 15 = .ok (.getfield 168, 3) := by decide +kernel
theorem dX10_fell_18 : decode cX10_fell 18 = .ok (.iload_n 1, 1) := by decide +kernel
theorem dX10_fell_19 : decode cX10_fell 19 = .ok (.ishr, 1) := by decide +kernel
theorem dX10_fell_20 : decode cX10_fell 20 = .ok (.iconst 1, 1) := by decide +kernel
theorem dX10_fell_21 : decode cX10_fell 21 = .ok (.iand, 1) := by decide +kernel
theorem dX10_fell_22 : decode cX10_fell 22 = .ok (.iload_n 2, 1) := by decide +kernel
theorem dX10_fell_23 : decode cX10_fell 23 = .ok (.ifCond .eq 7, 3) := by decide +kernel
theorem dX10_fell_26 : decode cX10_fell 26 = .ok (.iconst 1, 1) := by decide +kernel
theorem dX10_fell_27 : decode cX10_fell 27 = .ok (.goto 4, 3) := by decide +kernel
theorem dX10_fell_30 : decode cX10_fell 30 = .ok (.iconst 0, 1) := by decide +kernel
theorem dX10_fell_31 : decode cX10_fell 31 = .ok (.if_icmp .ne 5, 3) := by decide +kernel
theorem dX10_fell_34 : decode cX10_fell 34 = .ok (.iconst 0, 1) := by decide +kernel
theorem dX10_fell_35 : decode cX10_fell 35 = .ok (.ireturn, 1) := by decide +kernel
theorem dX10_fell_36 : decode cX10_fell 36 = .ok (.aload_n 0, 1) := by decide +kernel
theorem dX10_fell_37 : decode cX10_fell 37 = .ok (.getfield 42, 3) := by decide +kernel
theorem dX10_fell_40 : decode cX10_fell 40 = .ok (.dup, 1) := by decide +kernel
theorem dX10_fell_41 : decode cX10_fell 41 = .ok (.getfield 168, 3) := by decide +kernel
theorem dX10_fell_44 : decode cX10_fell 44 = .ok (.iconst 1, 1) := by decide +kernel
theorem dX10_fell_45 : decode cX10_fell 45 = .ok (.iload_n 1, 1) := by decide +kernel
theorem dX10_fell_46 : decode cX10_fell 46 = .ok (.ishl, 1) := by decide +kernel
theorem dX10_fell_47 : decode cX10_fell 47 = .ok (.ixor, 1) := by decide +kernel
theorem dX10_fell_48 : decode cX10_fell 48 = .ok (.putfield 168, 3) := by decide +kernel
theorem dX10_fell_51 : decode cX10_fell 51 = .ok (.iconst 1, 1) := by decide +kernel
theorem dX10_fell_52 : decode cX10_fell 52 = .ok (.ireturn, 1) := by decide +kernel
theorem dX10_morning_0 : decode cX10_morning 0 = .ok (.iconst 0, 1) := by decide +kernel
theorem dX10_morning_1 : decode cX10_morning 1 = .ok (.istore_n 1, 1) := by decide +kernel
theorem dX10_morning_2 : decode cX10_morning 2 = .ok (.iconst 0, 1) := by decide +kernel
theorem dX10_morning_3 : decode cX10_morning 3 = .ok (.istore_n 2, 1) := by decide +kernel
theorem dX10_morning_4 : decode cX10_morning 4 = .ok (.iload_n 2, 1) := by decide +kernel
theorem dX10_morning_5 : decode cX10_morning 5 = .ok (.aload_n 0, 1) := by decide +kernel
theorem dX10_morning_6 : decode cX10_morning 6 = .ok (.getfield 42, 3) := by decide +kernel
theorem dX10_morning_9 : decode cX10_morning 9 = .ok (.getfield 128, 3) := by decide +kernel
theorem dX10_morning_12 : decode cX10_morning 12 = .ok (.if_icmp .ge 39, 3) := by decide +kernel
theorem dX10_morning_15 : decode cX10_morning 15 = .ok (.iload_n 2, 1) := by decide +kernel
theorem dX10_morning_16 : decode cX10_morning 16 = .ok (.bipush 12, 2) := by decide +kernel
theorem dX10_morning_18 : decode cX10_morning 18 = .ok (.if_icmp .ge 33, 3) := by decide +kernel
theorem dX10_morning_21 : decode cX10_morning 21 = .ok (.aload_n 0, 1) := by decide +kernel
theorem dX10_morning_22 : decode cX10_morning 22 = .ok (.getfield 42, 3) := by decide +kernel
theorem dX10_morning_25 : decode cX10_morning 25 = .ok (.getfield 153, 3) := by decide +kernel
theorem dX10_morning_28 : decode cX10_morning 28 = .ok (.iload_n 2, 1) := by decide +kernel
theorem dX10_morning_29 : decode cX10_morning 29 = .ok (.iaload, 1) := by decide +kernel
theorem dX10_morning_30 : decode cX10_morning 30 = .ok (.aload_n 0, 1) := by decide +kernel
theorem dX10_morning_31 : decode cX10_morning 31 = .ok (.getfield 42, 3) := by decide +kernel
theorem dX10_morning_34 : decode cX10_morning 34 = .ok (.getfield 156, 3) := by decide +kernel
theorem dX10_morning_37 : decode cX10_morning 37 = .ok (.iload_n 2, 1) := by decide +kernel
theorem dX10_morning_38 : decode cX10_morning 38 = .ok (.iaload, 1) := by decide +kernel
theorem dX10_morning_39 : decode cX10_morning 39 = .ok (.if_icmp .eq 6, 3) := by decide +kernel
theorem dX10_morning_42 : decode cX10_morning 42 = .ok (.iinc 1 1, 3) := by decide +kernel
theorem dX10_morning_45 : decode cX10_morning 45 = .ok (.iinc 2 1, 3) := by decide +kernel
theorem dX10_morning_48 : decode cX10_morning 48 = .ok (.goto (-44), 3) := by decide +kernel
theorem dX10_morning_51 : decode cX10_morning 51 = .ok (.aload_n 0, 1) := by decide +kernel
theorem dX10_morning_52 : decode cX10_morning 52 = .ok (.getfield 42, 3) := by decide +kernel
theorem dX10_morning_55 : decode cX10_morning 55 = .ok (.invokevirtual 118, 3) := by decide +kernel
theorem dX10_morning_58 : decode cX10_morning 58 = .ok (.iload_n 1, 1) := by decide +kernel
theorem dX10_morning_59 : decode cX10_morning 59 = .ok (.ireturn, 1) := by decide +kernel
theorem dX10_vote_0 : decode cX10_vote 0 = .ok (.aload_n 0, 1) := by decide +kernel
theorem dX10_vote_1 : decode cX10_vote 1 = .ok (.invokevirtual 171, 3) := by decide +kernel
theorem dX10_vote_4 : decode cX10_vote 4 = .ok (.ifCond .eq 11, 3) := by decide +kernel
theorem dX10_vote_7 : decode cX10_vote 7 = .ok (.iload_n 1, 1) := by decide +kernel
theorem dX10_vote_8 : decode cX10_vote 8 = .ok (.iconst 4, 1) := by decide +kernel
theorem dX10_vote_9 : decode cX10_vote 9 = .ok (.invokestatic 175, 3) := by decide +kernel
theorem dX10_vote_12 : decode cX10_vote 12 = .ok (.ifCond .ne 5, 3) := by decide +kernel
theorem dX10_vote_15 : decode cX10_vote 15 = .ok (.iconst (-1), 1) := by decide +kernel
theorem dX10_vote_16 : decode cX10_vote 16 = .ok (.ireturn, 1) := by decide +kernel
theorem dX10_vote_17 : decode cX10_vote 17 = .ok (.aload_n 0, 1) := by decide +kernel
theorem dX10_vote_18 : decode cX10_vote 18 = .ok (.aload_n 0, 1) := by decide +kernel
theorem dX10_vote_19 : decode cX10_vote 19 = .ok (.getfield 42, 3) := by decide +kernel
theorem dX10_vote_22 : decode cX10_vote 22 = .ok (.getfield 153, 3) := by decide +kernel
theorem dX10_vote_25 : decode cX10_vote 25 = .ok (.iload_n 1, 1) := by decide +kernel
theorem dX10_vote_26 : decode cX10_vote 26 = .ok (.invokevirtual 201, 3) := by decide +kernel
theorem dX10_vote_29 : decode cX10_vote 29 = .ok (.ireturn, 1) := by decide +kernel
theorem dX10_says_0 : decode cX10_says 0 = .ok (.aload_n 0, 1) := by decide +kernel
theorem dX10_says_1 : decode cX10_says 1 = .ok (.invokevirtual 171, 3) := by decide +kernel
theorem dX10_says_4 : decode cX10_says 4 = .ok (.ifCond .eq 12, 3) := by decide +kernel
theorem dX10_says_7 : decode cX10_says 7 = .ok (.iload_n 1, 1) := by decide +kernel
theorem dX10_says_8 : decode cX10_says 8 = .ok (.bipush 8, 2) := by decide +kernel
theorem dX10_says_10 : decode cX10_says 10 = .ok (.invokestatic 175, 3) := by decide +kernel
theorem dX10_says_13 : decode cX10_says 13 = .ok (.ifCond .ne 5, 3) := by decide +kernel
theorem dX10_says_16 : decode cX10_says 16 = .ok (.iconst (-1), 1) := by decide +kernel
theorem dX10_says_17 : decode cX10_says 17 = .ok (.ireturn, 1) := by decide +kernel
theorem dX10_says_18 : decode cX10_says 18 = .ok (.iconst 0, 1) := by decide +kernel
theorem dX10_says_19 : decode cX10_says 19 = .ok (.istore_n 2, 1) := by decide +kernel
theorem dX10_says_20 : decode cX10_says 20 = .ok (.iconst 0, 1) := by decide +kernel
theorem dX10_says_21 : decode cX10_says 21 = .ok (.istore_n 3, 1) := by decide +kernel
theorem dX10_says_22 : decode cX10_says 22 = .ok (.iload_n 3, 1) := by decide +kernel
theorem dX10_says_23 : decode cX10_says 23 = .ok (.aload_n 0, 1) := by decide +kernel
theorem dX10_says_24 : decode cX10_says 24 = .ok (.getfield 42, 3) := by decide +kernel
theorem dX10_says_27 : decode cX10_says 27 = .ok (.getfield 128, 3) := by decide +kernel
theorem dX10_says_30 : decode cX10_says 30 = .ok (.if_icmp .ge 31, 3) := by decide +kernel
theorem dX10_says_33 : decode cX10_says 33 = .ok (.iload_n 3, 1) := by decide +kernel
theorem dX10_says_34 : decode cX10_says 34 = .ok (.bipush 12, 2) := by decide +kernel
theorem dX10_says_36 : decode cX10_says 36 = .ok (.if_icmp .ge 25, 3) := by decide +kernel
theorem dX10_says_39 : decode cX10_says 39 = .ok (.aload_n 0, 1) := by decide +kernel
theorem dX10_says_40 : decode cX10_says 40 = .ok (.getfield 42, 3) := by decide +kernel
theorem dX10_says_43 : decode cX10_says 43 = .ok (.getfield 153, 3) := by decide +kernel
theorem dX10_says_46 : decode cX10_says 46 = .ok (.iload_n 3, 1) := by decide +kernel
theorem dX10_says_47 : decode cX10_says 47 = .ok (.iaload, 1) := by decide +kernel
theorem dX10_says_48 : decode cX10_says 48 = .ok (.iload_n 1, 1) := by decide +kernel
theorem dX10_says_49 : decode cX10_says 49 = .ok (.if_icmp .ne 6, 3) := by decide +kernel
theorem dX10_says_52 : decode cX10_says 52 = .ok (.iinc 2 1, 3) := by decide +kernel
theorem dX10_says_55 : decode cX10_says 55 = .ok (.iinc 3 1, 3) := by decide +kernel
theorem dX10_says_58 : decode cX10_says 58 = .ok (.goto (-36), 3) := by decide +kernel
theorem dX10_says_61 : decode cX10_says 61 = .ok (.iload_n 2, 1) := by decide +kernel
theorem dX10_says_62 : decode cX10_says 62 = .ok (.ireturn, 1) := by decide +kernel
theorem dX10_cheapest_0 : decode cX10_cheapest 0 = .ok (.aload_n 0, 1) := by decide +kernel
theorem dX10_cheapest_1 : decode cX10_cheapest 1 = .ok (.iload_n 1, 1) := by decide +kernel
theorem dX10_cheapest_2 : decode cX10_cheapest 2 = .ok (.iload_n 2, 1) := by decide +kernel
theorem dX10_cheapest_3 : decode cX10_cheapest 3 = .ok (.invokevirtual 205, 3) := by decide +kernel
theorem dX10_cheapest_6 : decode cX10_cheapest 6 = .ok (.ifCond .eq 23, 3) := by decide +kernel
theorem dX10_cheapest_9 : decode cX10_cheapest 9 = .ok (.aload_n 0, 1) := by decide +kernel
theorem dX10_cheapest_10 : decode cX10_cheapest 10 = .ok (.getfield 42, 3) := by decide +kernel
theorem dX10_cheapest_13 : decode cX10_cheapest 13 = .ok (.iload_n 3, 1) := by decide +kernel
theorem dX10_cheapest_14 : decode cX10_cheapest 14 = .ok (.invokevirtual 208, 3) := by decide +kernel
theorem dX10_cheapest_17 : decode cX10_cheapest 17 = .ok (.ifCond .eq 12, 3) := by decide +kernel
theorem dX10_cheapest_20 : decode cX10_cheapest 20 = .ok (.iload 4, 2) := by decide +kernel
theorem dX10_cheapest_22 : decode cX10_cheapest 22 = .ok (.iconst 2, 1) := by decide +kernel
theorem dX10_cheapest_23 : decode cX10_cheapest 23 = .ok (.invokestatic 175, 3) := by decide +kernel
theorem dX10_cheapest_26 : decode cX10_cheapest 26 = .ok (.ifCond .ne 5, 3) := by decide +kernel
theorem dX10_cheapest_29 : decode cX10_cheapest 29 = .ok (.iconst (-1), 1) := by decide +kernel
theorem dX10_cheapest_30 : decode cX10_cheapest 30 = .ok (.ireturn, 1) := by decide +kernel
theorem dX10_cheapest_31 : decode cX10_cheapest 31 = .ok (.aload_n 0, 1) := by decide +kernel
theorem dX10_cheapest_32 : decode cX10_cheapest 32 = .ok (.getfield 82, 3) := by decide +kernel
theorem dX10_cheapest_35 : decode cX10_cheapest 35 = .ok (.aload_n 0, 1) := by decide +kernel
theorem dX10_cheapest_36 : decode cX10_cheapest 36 = .ok (.getfield 42, 3) := by decide +kernel
theorem dX10_cheapest_39 : decode cX10_cheapest 39 = .ok (.invokevirtual 211, 3) := by decide +kernel
theorem dX10_cheapest_42 : decode cX10_cheapest 42 = .ok (.aload_n 0, 1) := by decide +kernel
theorem dX10_cheapest_43 : decode cX10_cheapest 43 = .ok (.getfield 82, 3) := by decide +kernel
theorem dX10_cheapest_46 : decode cX10_cheapest 46 = .ok (.aload_n 0, 1) := by decide +kernel
theorem dX10_cheapest_47 : decode cX10_cheapest 47 = .ok (.getfield 42, 3) := by decide +kernel
theorem dX10_cheapest_50 : decode cX10_cheapest 50 = .ok (.iload_n 2, 1) := by decide +kernel
theorem dX10_cheapest_51 : decode cX10_cheapest 51 = .ok (.invokevirtual 214, 3) := by decide +kernel
theorem dX10_cheapest_54 : decode cX10_cheapest 54 = .ok (.aload_n 0, 1) := by decide +kernel
theorem dX10_cheapest_55 : decode cX10_cheapest 55 = .ok (.getfield 82, 3) := by decide +kernel
theorem dX10_cheapest_58 : decode cX10_cheapest 58 = .ok (.aload_n 0, 1) := by decide +kernel
theorem dX10_cheapest_59 : decode cX10_cheapest 59 = .ok (.getfield 42, 3) := by decide +kernel
theorem dX10_cheapest_62 : decode cX10_cheapest 62 = .ok (.iload_n 1, 1) := by decide +kernel
theorem dX10_cheapest_63 : decode cX10_cheapest 63 = .ok (.iload_n 2, 1) := by decide +kernel
theorem dX10_cheapest_64 : decode cX10_cheapest 64 = .ok (.iload_n 3, 1) := by decide +kernel
theorem dX10_cheapest_65 : decode cX10_cheapest 65 = .ok (.iconst (-1), 1) := by decide +kernel
theorem dX10_cheapest_66 : decode cX10_cheapest 66 = .ok (.ixor, 1) := by decide +kernel
theorem dX10_cheapest_67 : decode cX10_cheapest 67 = .ok (.invokevirtual 218, 3) := by decide +kernel
theorem dX10_cheapest_70 : decode cX10_cheapest 70 = .ok (.aload_n 0, 1) := by decide +kernel
theorem dX10_cheapest_71 : decode cX10_cheapest 71 = .ok (.getfield 82, 3) := by decide +kernel
theorem dX10_cheapest_74 : decode cX10_cheapest 74 = .ok (.iload 4, 2) := by decide +kernel
theorem dX10_cheapest_76 : decode cX10_cheapest 76 = .ok (.invokevirtual 222, 3) := by decide +kernel
theorem dX10_cheapest_79 : decode cX10_cheapest 79 = .ok (.ireturn, 1) := by decide +kernel
theorem dX10_answer_0 : decode cX10_answer 0 = .ok (.aload_n 0, 1) := by decide +kernel
theorem dX10_answer_1 : decode cX10_answer 1 = .ok (.iload_n 1, 1) := by decide +kernel
theorem dX10_answer_2 : decode cX10_answer 2 = .ok (.iload_n 2, 1) := by decide +kernel
theorem dX10_answer_3 : decode cX10_answer 3 = .ok (.invokevirtual 205, 3) := by decide +kernel
theorem dX10_answer_6 : decode cX10_answer 6 = .ok (.ifCond .eq 22, 3) := by decide +kernel
theorem dX10_answer_9 : decode cX10_answer 9 = .ok (.iload 4, 2) := by decide +kernel
theorem dX10_answer_11 : decode cX10_answer 11 = .ok (.bipush 8, 2) := by decide +kernel
theorem dX10_answer_13 : decode cX10_answer 13 = .ok (.invokestatic 175, 3) := by decide +kernel
theorem dX10_answer_16 : decode cX10_answer 16 = .ok (.ifCond .eq 12, 3) := by decide +kernel
theorem dX10_answer_19 : decode cX10_answer 19 = .ok (.iload 6, 2) := by decide +kernel
theorem dX10_answer_21 : decode cX10_answer 21 = .ok (.iconst 2, 1) := by decide +kernel
theorem dX10_answer_22 : decode cX10_answer 22 = .ok (.invokestatic 175, 3) := by decide +kernel
theorem dX10_answer_25 : decode cX10_answer 25 = .ok (.ifCond .ne 5, 3) := by decide +kernel
theorem dX10_answer_28 : decode cX10_answer 28 = .ok (.iconst (-1), 1) := by decide +kernel
theorem dX10_answer_29 : decode cX10_answer 29 = .ok (.ireturn, 1) := by decide +kernel
theorem dX10_answer_30 : decode cX10_answer 30 = .ok (.aload_n 0, 1) := by decide +kernel
theorem dX10_answer_31 : decode cX10_answer 31 = .ok (.getfield 42, 3) := by decide +kernel
theorem dX10_answer_34 : decode cX10_answer 34 = .ok (.iload_n 3, 1) := by decide +kernel
theorem dX10_answer_35 : decode cX10_answer 35 = .ok (.invokevirtual 208, 3) := by decide +kernel
theorem dX10_answer_38 : decode cX10_answer 38 = .ok (.ifCond .eq 15, 3) := by decide +kernel
theorem dX10_answer_41 : decode cX10_answer 41 = .ok (.aload_n 0, 1) := by decide +kernel
theorem dX10_answer_42 : decode cX10_answer 42 = .ok (.getfield 42, 3) := by decide +kernel
theorem dX10_answer_45 : decode cX10_answer 45 = .ok (.iload 5, 2) := by decide +kernel
theorem dX10_answer_47 : decode cX10_answer 47 = .ok (.invokevirtual 208, 3) := by decide +kernel
theorem dX10_answer_50 : decode cX10_answer 50 = .ok (.ifCond .ne 5, 3) := by decide +kernel
theorem dX10_answer_53 : decode cX10_answer 53 = .ok (.iconst (-1), 1) := by decide +kernel
theorem dX10_answer_54 : decode cX10_answer 54 = .ok (.ireturn, 1) := by decide +kernel
theorem dX10_answer_55 : decode cX10_answer 55 = .ok (.aload_n 0, 1) := by decide +kernel
theorem dX10_answer_56 : decode cX10_answer 56 = .ok (.getfield 82, 3) := by decide +kernel
theorem dX10_answer_59 : decode cX10_answer 59 = .ok (.aload_n 0, 1) := by decide +kernel
theorem dX10_answer_60 : decode cX10_answer 60 = .ok (.getfield 42, 3) := by decide +kernel
theorem dX10_answer_63 : decode cX10_answer 63 = .ok (.invokevirtual 211, 3) := by decide +kernel
theorem dX10_answer_66 : decode cX10_answer 66 = .ok (.aload_n 0, 1) := by decide +kernel
theorem dX10_answer_67 : decode cX10_answer 67 = .ok (.getfield 82, 3) := by decide +kernel
theorem dX10_answer_70 : decode cX10_answer 70 = .ok (.aload_n 0, 1) := by decide +kernel
theorem dX10_answer_71 : decode cX10_answer 71 = .ok (.getfield 42, 3) := by decide +kernel
theorem dX10_answer_74 : decode cX10_answer 74 = .ok (.iload_n 2, 1) := by decide +kernel
theorem dX10_answer_75 : decode cX10_answer 75 = .ok (.invokevirtual 214, 3) := by decide +kernel
theorem dX10_answer_78 : decode cX10_answer 78 = .ok (.aload_n 0, 1) := by decide +kernel
theorem dX10_answer_79 : decode cX10_answer 79 = .ok (.getfield 82, 3) := by decide +kernel
theorem dX10_answer_82 : decode cX10_answer 82 = .ok (.aload_n 0, 1) := by decide +kernel
theorem dX10_answer_83 : decode cX10_answer 83 = .ok (.getfield 42, 3) := by decide +kernel
theorem dX10_answer_86 : decode cX10_answer 86 = .ok (.iload_n 1, 1) := by decide +kernel
theorem dX10_answer_87 : decode cX10_answer 87 = .ok (.iload_n 2, 1) := by decide +kernel
theorem dX10_answer_88 : decode cX10_answer 88 = .ok (.iload_n 3, 1) := by decide +kernel
theorem dX10_answer_89 : decode cX10_answer 89 = .ok (.iconst (-1), 1) := by decide +kernel
theorem dX10_answer_90 : decode cX10_answer 90 = .ok (.ixor, 1) := by decide +kernel
theorem dX10_answer_91 : decode cX10_answer 91 = .ok (.invokevirtual 218, 3) := by decide +kernel
theorem dX10_answer_94 : decode cX10_answer 94 = .ok (.aload_n 0, 1) := by decide +kernel
theorem dX10_answer_95 : decode cX10_answer 95 = .ok (.getfield 82, 3) := by decide +kernel
theorem dX10_answer_98 : decode cX10_answer 98 = .ok (.getfield 226, 3) := by decide +kernel
theorem dX10_answer_101 : decode cX10_answer 101 = .ok (.ifCond .ne 6, 3) := by decide +kernel
theorem dX10_answer_104 : decode cX10_answer 104 = .ok (.bipush (-2), 2) := by decide +kernel
theorem dX10_answer_106 : decode cX10_answer 106 = .ok (.ireturn, 1) := by decide +kernel
theorem dX10_answer_107 : decode cX10_answer 107 = .ok (.aload_n 0, 1) := by decide +kernel
theorem dX10_answer_108 : decode cX10_answer 108 = .ok (.getfield 82, 3) := by decide +kernel
theorem dX10_answer_111 : decode cX10_answer 111 = .ok (.aload_n 0, 1) := by decide +kernel
theorem dX10_answer_112 : decode cX10_answer 112 = .ok (.getfield 42, 3) := by decide +kernel
theorem dX10_answer_115 : decode cX10_answer 115 = .ok (.invokevirtual 230, 3) := by decide +kernel
theorem dX10_answer_118 : decode cX10_answer 118 = .ok (.aload_n 0, 1) := by decide +kernel
theorem dX10_answer_119 : decode cX10_answer 119 = .ok (.getfield 82, 3) := by decide +kernel
theorem dX10_answer_122 : decode cX10_answer 122 = .ok (.aload_n 0, 1) := by decide +kernel
theorem dX10_answer_123 : decode cX10_answer 123 = .ok (.getfield 42, 3) := by decide +kernel
theorem dX10_answer_126 : decode cX10_answer 126 = .ok (.iload 4, 2) := by decide +kernel
theorem dX10_answer_128 : decode cX10_answer 128 = .ok (.invokevirtual 214, 3) := by decide +kernel
theorem dX10_answer_131 : decode cX10_answer 131 = .ok (.aload_n 0, 1) := by decide +kernel
theorem dX10_answer_132 : decode cX10_answer 132 = .ok (.getfield 82, 3) := by decide +kernel
theorem dX10_answer_135 : decode cX10_answer 135 = .ok (.aload_n 0, 1) := by decide +kernel
theorem dX10_answer_136 : decode cX10_answer 136 = .ok (.getfield 42, 3) := by decide +kernel
theorem dX10_answer_139 : decode cX10_answer 139 = .ok (.iload_n 1, 1) := by decide +kernel
theorem dX10_answer_140 : decode cX10_answer 140 = .ok (.iload 4, 2) := by decide +kernel
theorem dX10_answer_142 : decode cX10_answer 142 = .ok (.iload 5, 2) := by decide +kernel
theorem dX10_answer_144 : decode cX10_answer 144 = .ok (.iconst (-1), 1) := by decide +kernel
theorem dX10_answer_145 : decode cX10_answer 145 = .ok (.ixor, 1) := by decide +kernel
theorem dX10_answer_146 : decode cX10_answer 146 = .ok (.invokevirtual 218, 3) := by decide +kernel
theorem dX10_answer_149 : decode cX10_answer 149 = .ok (.aload_n 0, 1) := by decide +kernel
theorem dX10_answer_150 : decode cX10_answer 150 = .ok (.getfield 82, 3) := by decide +kernel
theorem dX10_answer_153 : decode cX10_answer 153 = .ok (.iload 6, 2) := by decide +kernel
theorem dX10_answer_155 : decode cX10_answer 155 = .ok (.invokevirtual 222, 3) := by decide +kernel
theorem dX10_answer_158 : decode cX10_answer 158 = .ok (.ireturn, 1) := by decide +kernel
theorem dX10_bought_0 : decode cX10_bought 0 = .ok (.aload_n 0, 1) := by decide +kernel
theorem dX10_bought_1 : decode cX10_bought 1 = .ok (.invokevirtual 171, 3) := by decide +kernel
theorem dX10_bought_4 : decode cX10_bought 4 = .ok (.ifCond .eq 21, 3) := by decide +kernel
theorem dX10_bought_7 : decode cX10_bought 7 = .ok (.iload_n 1, 1) := by decide +kernel
theorem dX10_bought_8 : decode cX10_bought 8 = .ok (.iconst 4, 1) := by decide +kernel
theorem dX10_bought_9 : decode cX10_bought 9 = .ok (.invokestatic 175, 3) := by decide +kernel
theorem dX10_bought_12 : decode cX10_bought 12 = .ok (.ifCond .eq 13, 3) := by decide +kernel
theorem dX10_bought_15 : decode cX10_bought 15 = .ok (.iload_n 2, 1) := by decide +kernel
theorem dX10_bought_16 : decode cX10_bought 16 = .ok (.ifCond .lt 9, 3) := by decide +kernel
theorem dX10_bought_19 : decode cX10_bought 19 = .ok (.iload_n 2, 1) := by decide +kernel
theorem dX10_bought_20 : decode cX10_bought 20 = .ok (.bipush 12, 2) := by decide +kernel
theorem dX10_bought_22 : decode cX10_bought 22 = .ok (.if_icmp .le 5, 3) := by decide +kernel
theorem dX10_bought_25 : decode cX10_bought 25 = .ok (.iconst (-1), 1) := by decide +kernel
theorem dX10_bought_26 : decode cX10_bought 26 = .ok (.ireturn, 1) := by decide +kernel
theorem dX10_bought_27 : decode cX10_bought 27 = .ok (.iconst 0, 1) := by decide +kernel
theorem dX10_bought_28 : decode cX10_bought 28 = .ok (.istore_n 3, 1) := by decide +kernel
theorem dX10_bought_29 : decode cX10_bought 29 = .ok (.aload_n 0, 1) := by decide +kernel
theorem dX10_bought_30 : decode cX10_bought 30 = .ok (.getfield 82, 3) := by decide +kernel
theorem dX10_bought_33 : decode cX10_bought 33 = .ok (.aload_n 0, 1) := by decide +kernel
theorem dX10_bought_34 : decode cX10_bought 34 = .ok (.getfield 42, 3) := by decide +kernel
theorem dX10_bought_37 : decode cX10_bought 37 = .ok (.invokevirtual 211, 3) := by decide +kernel
theorem dX10_bought_40 : decode cX10_bought 40 = .ok (.iconst 0, 1) := by decide +kernel
theorem dX10_bought_41 : decode cX10_bought 41 = .ok (.istore 4, 2) := by decide +kernel
theorem dX10_bought_43 : decode cX10_bought 43 = .ok (.iload 4, 2) := by decide +kernel
theorem dX10_bought_45 : decode cX10_bought 45 = .ok (.bipush 8, 2) := by decide +kernel
theorem dX10_bought_47 : decode cX10_bought 47 = .ok (.if_icmp .ge 65, 3) := by decide +kernel
theorem dX10_bought_50 : decode cX10_bought 50 = .ok (.aload_n 0, 1) := by decide +kernel
theorem dX10_bought_51 : decode cX10_bought 51 = .ok (.getfield 82, 3) := by decide +kernel
theorem dX10_bought_54 : decode cX10_bought 54 = .ok (.aload_n 0, 1) := by decide +kernel
theorem dX10_bought_55 : decode cX10_bought 55 = .ok (.getfield 42, 3) := by decide +kernel
theorem dX10_bought_58 : decode cX10_bought 58 = .ok (.iload 4, 2) := by decide +kernel
theorem dX10_bought_60 : decode cX10_bought 60 = .ok (.invokevirtual 233, 3) := by decide +kernel
theorem dX10_bought_63 : decode cX10_bought 63 = .ok (.aload_n 0, 1) := by decide +kernel
theorem dX10_bought_64 : decode cX10_bought 64 = .ok (.getfield 82, 3) := by decide +kernel
theorem dX10_bought_67 : decode cX10_bought 67 = .ok (.aload_n 0, 1) := by decide +kernel
theorem dX10_bought_68 : decode cX10_bought 68 = .ok (.getfield 42, 3) := by decide +kernel
theorem dX10_bought_71 : decode cX10_bought 71 = .ok (.iload_n 1, 1) := by decide +kernel
theorem dX10_bought_72 : decode cX10_bought 72 = .ok (.iload 4, 2) := by decide +kernel
theorem dX10_bought_74 : decode cX10_bought 74 = .ok (.iconst (-1), 1) := by decide +kernel
theorem dX10_bought_75 : decode cX10_bought 75 = .ok (.invokevirtual 218, 3) := by decide +kernel
theorem dX10_bought_78 : decode cX10_bought 78 = .ok (.aload_n 0, 1) := by decide +kernel
theorem dX10_bought_79 : decode cX10_bought 79 = .ok (.getfield 82, 3) := by decide +kernel
theorem dX10_bought_82 : decode cX10_bought 82 = .ok (.getfield 226, 3) := by decide +kernel
theorem dX10_bought_85 : decode cX10_bought 85 = .ok (.ifCond .eq 21, 3) := by decide +kernel
theorem dX10_bought_88 : decode cX10_bought 88 = .ok (.aload_n 0, 1) := by decide +kernel
theorem dX10_bought_89 : decode cX10_bought 89 = .ok (.getfield 82, 3) := by decide +kernel
theorem dX10_bought_92 : decode cX10_bought 92 = .ok (.getfield 236, 3) := by decide +kernel
theorem dX10_bought_95 : decode cX10_bought 95 = .ok (.iload_n 2, 1) := by decide +kernel
theorem dX10_bought_96 : decode cX10_bought 96 = .ok (.if_icmp .gt 10, 3) := by decide +kernel
theorem dX10_bought_99 : decode cX10_bought 99 = .ok (.iload_n 3, 1) := by decide +kernel
theorem dX10_bought_100 : decode cX10_bought 100 = .ok (.iconst 1, 1) := by decide +kernel
theorem dX10_bought_101 : decode cX10_bought 101 = .ok (.iload 4, 2) := by decide +kernel
theorem dX10_bought_103 : decode cX10_bought 103 = .ok (.ishl, 1) := by decide +kernel
theorem dX10_bought_104 : decode cX10_bought 104 = .ok (.ior, 1) := by decide +kernel
theorem dX10_bought_105 : decode cX10_bought 105 = .ok (.istore_n 3, 1) := by decide +kernel
theorem dX10_bought_106 : decode cX10_bought 106 = .ok (.iinc 4 1, 3) := by decide +kernel
theorem dX10_bought_109 : decode cX10_bought 109 = .ok (.goto (-66), 3) := by decide +kernel
theorem dX10_bought_112 : decode cX10_bought 112 = .ok (.iload_n 3, 1) := by decide +kernel
theorem dX10_bought_113 : decode cX10_bought 113 = .ok (.ireturn, 1) := by decide +kernel
theorem dX10_swings_0 : decode cX10_swings 0 = .ok (.aload_n 0, 1) := by decide +kernel
theorem dX10_swings_1 : decode cX10_swings 1 = .ok (.iload_n 1, 1) := by decide +kernel
theorem dX10_swings_2 : decode cX10_swings 2 = .ok (.iload_n 3, 1) := by decide +kernel
theorem dX10_swings_3 : decode cX10_swings 3 = .ok (.invokevirtual 205, 3) := by decide +kernel
theorem dX10_swings_6 : decode cX10_swings 6 = .ok (.ifCond .eq 30, 3) := by decide +kernel
theorem dX10_swings_9 : decode cX10_swings 9 = .ok (.aload_n 0, 1) := by decide +kernel
theorem dX10_swings_10 : decode cX10_swings 10 = .ok (.getfield 42, 3) := by decide +kernel
theorem dX10_swings_13 : decode cX10_swings 13 = .ok (.iload_n 2, 1) := by decide +kernel
theorem dX10_swings_14 : decode cX10_swings 14 = .ok (.invokevirtual 134, 3) := by decide +kernel
theorem dX10_swings_17 : decode cX10_swings 17 = .ok (.ifCond .eq 19, 3) := by decide +kernel
theorem dX10_swings_20 : decode cX10_swings 20 = .ok (.iload 4, 2) := by decide +kernel
theorem dX10_swings_22 : decode cX10_swings 22 = .ok (.bipush 8, 2) := by decide +kernel
theorem dX10_swings_24 : decode cX10_swings 24 = .ok (.invokestatic 175, 3) := by decide +kernel
theorem dX10_swings_27 : decode cX10_swings 27 = .ok (.ifCond .eq 9, 3) := by decide +kernel
theorem dX10_swings_30 : decode cX10_swings 30 = .ok (.iload_n 3, 1) := by decide +kernel
theorem dX10_swings_31 : decode cX10_swings 31 = .ok (.iload 4, 2) := by decide +kernel
theorem dX10_swings_33 : decode cX10_swings 33 = .ok (.if_icmp .ne 5, 3) := by decide +kernel
theorem dX10_swings_36 : decode cX10_swings 36 = .ok (.iconst (-1), 1) := by decide +kernel
theorem dX10_swings_37 : decode cX10_swings 37 = .ok (.ireturn, 1) := by decide +kernel
theorem dX10_swings_38 : decode cX10_swings 38 = .ok (.aload_n 0, 1) := by decide +kernel
theorem dX10_swings_39 : decode cX10_swings 39 = .ok (.getfield 82, 3) := by decide +kernel
theorem dX10_swings_42 : decode cX10_swings 42 = .ok (.aload_n 0, 1) := by decide +kernel
theorem dX10_swings_43 : decode cX10_swings 43 = .ok (.getfield 42, 3) := by decide +kernel
theorem dX10_swings_46 : decode cX10_swings 46 = .ok (.iload_n 1, 1) := by decide +kernel
theorem dX10_swings_47 : decode cX10_swings 47 = .ok (.iload_n 2, 1) := by decide +kernel
theorem dX10_swings_48 : decode cX10_swings 48 = .ok (.iload_n 3, 1) := by decide +kernel
theorem dX10_swings_49 : decode cX10_swings 49 = .ok (.iload 4, 2) := by decide +kernel
theorem dX10_swings_51 : decode cX10_swings 51 = .ok (.invokevirtual 239, 3) := by decide +kernel
theorem dX10_swings_54 : decode cX10_swings 54 = .ok (.ireturn, 1) := by decide +kernel
theorem dX10_explained_0 : decode cX10_explained 0 = .ok (.aload_n 0, 1) := by decide +kernel
theorem dX10_explained_1 : decode cX10_explained 1 = .ok (.iload_n 1, 1) := by decide +kernel
theorem dX10_explained_2 : decode cX10_explained 2 = .ok (.iconst 0, 1) := by decide +kernel
theorem dX10_explained_3 : decode cX10_explained 3 = .ok (.iload_n 2, 1) := by decide +kernel
theorem dX10_explained_4 : decode cX10_explained 4 = .ok (.invokevirtual 187, 3) := by decide +kernel
theorem dX10_explained_7 : decode cX10_explained 7 = .ok (.ifCond .eq 14, 3) := by decide +kernel
theorem dX10_explained_10 : decode cX10_explained 10 = .ok (.aload_n 0, 1) := by decide +kernel
theorem dX10_explained_11 : decode cX10_explained 11 = .ok (.getfield 42, 3) := by decide +kernel
theorem dX10_explained_14 : decode cX10_explained 14 = .ok (.iload_n 3, 1) := by decide +kernel
theorem dX10_explained_15 : decode cX10_explained 15 = .ok (.invokevirtual 134, 3) := by decide +kernel
theorem dX10_explained_18 : decode cX10_explained 18 = .ok (.ifCond .ne 5, 3) := by decide +kernel
theorem dX10_explained_21 : decode cX10_explained 21 = .ok (.iconst (-1), 1) := by decide +kernel
theorem dX10_explained_22 : decode cX10_explained 22 = .ok (.ireturn, 1) := by decide +kernel
theorem dX10_explained_23 : decode cX10_explained 23 = .ok (.iconst 0, 1) := by decide +kernel
theorem dX10_explained_24 : decode cX10_explained 24 = .ok (.istore 4, 2) := by decide +kernel
theorem dX10_explained_26 : decode cX10_explained 26 = .ok (.iconst 0, 1) := by decide +kernel
theorem dX10_explained_27 : decode cX10_explained 27 = .ok (.istore 5, 2) := by decide +kernel
theorem dX10_explained_29 : decode cX10_explained 29 = .ok (.iload 5, 2) := by decide +kernel
theorem dX10_explained_31 : decode cX10_explained 31 = .ok (.bipush 8, 2) := by decide +kernel
theorem dX10_explained_33 : decode cX10_explained 33 = .ok (.if_icmp .ge 30, 3) := by decide +kernel
theorem dX10_explained_36 : decode cX10_explained 36 = .ok (.aload_n 0, 1) := by decide +kernel
theorem dX10_explained_37 : decode cX10_explained 37 = .ok (.iload_n 1, 1) := by decide +kernel
theorem dX10_explained_38 : decode cX10_explained 38 = .ok (.iload_n 2, 1) := by decide +kernel
theorem dX10_explained_39 : decode cX10_explained 39 = .ok (.iload_n 3, 1) := by decide +kernel
theorem dX10_explained_40 : decode cX10_explained 40 = .ok (.iload 5, 2) := by decide +kernel
theorem dX10_explained_42 : decode cX10_explained 42 = .ok (.invokevirtual 243, 3) := by decide +kernel
theorem dX10_explained_45 : decode cX10_explained 45 = .ok (.ifCond .eq 12, 3) := by decide +kernel
theorem dX10_explained_48 : decode cX10_explained 48 = .ok (.iload 4, 2) := by decide +kernel
theorem dX10_explained_50 : decode cX10_explained 50 = .ok (.iconst 1, 1) := by decide +kernel
theorem dX10_explained_51 : decode cX10_explained 51 = .ok (.iload 5, 2) := by decide +kernel
theorem dX10_explained_53 : decode cX10_explained 53 = .ok (.ishl, 1) := by decide +kernel
theorem dX10_explained_54 : decode cX10_explained 54 = .ok (.ior, 1) := by decide +kernel
theorem dX10_explained_55 : decode cX10_explained 55 = .ok (.istore 4, 2) := by decide +kernel
theorem dX10_explained_57 : decode cX10_explained 57 = .ok (.iinc 5 1, 3) := by decide +kernel
theorem dX10_explained_60 : decode cX10_explained 60 = .ok (.goto (-31), 3) := by decide +kernel
theorem dX10_explained_63 : decode cX10_explained 63 = .ok (.iload 4, 2) := by decide +kernel
theorem dX10_explained_65 : decode cX10_explained 65 = .ok (.ireturn, 1) := by decide +kernel
theorem dX10_trueWind_0 : decode cX10_trueWind 0 = .ok (.aload_n 0, 1) := by decide +kernel
theorem dX10_trueWind_1 : decode cX10_trueWind 1 = .ok (.iload_n 1, 1) := by decide +kernel
theorem dX10_trueWind_2 : decode cX10_trueWind 2 = .ok (.iconst 0, 1) := by decide +kernel
theorem dX10_trueWind_3 : decode cX10_trueWind 3 = .ok (.iload_n 2, 1) := by decide +kernel
theorem dX10_trueWind_4 : decode cX10_trueWind 4 = .ok (.invokevirtual 187, 3) := by decide +kernel
theorem dX10_trueWind_7 : decode cX10_trueWind 7 = .ok (.ifCond .eq 11, 3) := by decide +kernel
theorem dX10_trueWind_10 : decode cX10_trueWind 10 = .ok (.iload_n 3, 1) := by decide +kernel
theorem dX10_trueWind_11 : decode cX10_trueWind 11 = .ok (.iconst 3, 1) := by decide +kernel
theorem dX10_trueWind_12 : decode cX10_trueWind 12 = .ok (.invokestatic 175, 3) := by decide +kernel
theorem dX10_trueWind_15 : decode cX10_trueWind 15 = .ok (.ifCond .ne 5, 3) := by decide +kernel
theorem dX10_trueWind_18 : decode cX10_trueWind 18 = .ok (.iconst (-1), 1) := by decide +kernel
theorem dX10_trueWind_19 : decode cX10_trueWind 19 = .ok (.ireturn, 1) := by decide +kernel
theorem dX10_trueWind_20 : decode cX10_trueWind 20 = .ok (.iconst 0, 1) := by decide +kernel
theorem dX10_trueWind_21 : decode cX10_trueWind 21 = .ok (.istore 4, 2) := by decide +kernel
theorem dX10_trueWind_23 : decode cX10_trueWind 23 = .ok (.iconst (-1), 1) := by decide +kernel
theorem dX10_trueWind_24 : decode cX10_trueWind 24 = .ok (.istore 5, 2) := by decide +kernel
theorem dX10_trueWind_26 : decode cX10_trueWind 26 = .ok (.iconst 0, 1) := by decide +kernel
theorem dX10_trueWind_27 : decode cX10_trueWind 27 = .ok (.istore 6, 2) := by decide +kernel
theorem dX10_trueWind_29 : decode cX10_trueWind 29 = .ok (.iconst 0, 1) := by decide +kernel
theorem dX10_trueWind_30 : decode cX10_trueWind 30 = .ok (.istore 7, 2) := by decide +kernel
theorem dX10_trueWind_32 : decode cX10_trueWind 32 = .ok (.iload 7, 2) := by decide +kernel
theorem dX10_trueWind_34 : decode cX10_trueWind 34 = .ok (.bipush 8, 2) := by decide +kernel
theorem dX10_trueWind_36 : decode cX10_trueWind 36 = .ok (.if_icmp .ge 53, 3) := by decide +kernel
theorem dX10_trueWind_39 : decode cX10_trueWind 39 = .ok (.aload_n 0, 1) := by decide +kernel
theorem dX10_trueWind_40 : decode cX10_trueWind 40 = .ok (.iload_n 1, 1) := by decide +kernel
theorem dX10_trueWind_41 : decode cX10_trueWind 41 = .ok (.iload_n 2, 1) := by decide +kernel
theorem dX10_trueWind_42 : decode cX10_trueWind 42 = .ok (.iload 7, 2) := by decide +kernel
theorem dX10_trueWind_44 : decode cX10_trueWind 44 = .ok (.invokevirtual 247, 3) := by decide +kernel
theorem dX10_trueWind_47 : decode cX10_trueWind 47 = .ok (.istore 8, 2) := by decide +kernel
theorem dX10_trueWind_49 : decode cX10_trueWind 49 = .ok (.aload_n 0, 1) := by decide +kernel
theorem dX10_trueWind_50 : decode cX10_trueWind 50 = .ok (.getfield 42, 3) := by decide +kernel
theorem dX10_trueWind_53 : decode cX10_trueWind 53 = .ok (.getfield 128, 3) := by decide +kernel
theorem dX10_trueWind_56 : decode cX10_trueWind 56 = .ok (.iload 8, 2) := by decide +kernel
theorem dX10_trueWind_58 : decode cX10_trueWind 58 = .ok (.invokestatic 250, 3) := by decide +kernel
theorem dX10_trueWind_61 : decode cX10_trueWind 61 = .ok (.isub, 1) := by decide +kernel
theorem dX10_trueWind_62 : decode cX10_trueWind 62 = .ok (.istore 9, 2) := by decide +kernel
theorem dX10_trueWind_64 : decode cX10_trueWind 64 = .ok (.iload 9, 2) := by decide +kernel
theorem dX10_trueWind_66 : decode cX10_trueWind 66 = .ok (.iload 5, 2) := by decide +kernel
theorem dX10_trueWind_68 : decode cX10_trueWind 68 = .ok (.if_icmp .le 15, 3) := by decide +kernel
theorem dX10_trueWind_71 : decode cX10_trueWind 71 = .ok (.iload 7, 2) := by decide +kernel
theorem dX10_trueWind_73 : decode cX10_trueWind 73 = .ok (.istore 4, 2) := by decide +kernel
theorem dX10_trueWind_75 : decode cX10_trueWind 75 = .ok (.iload 9, 2) := by decide +kernel
theorem dX10_trueWind_77 : decode cX10_trueWind 77 = .ok (.istore 5, 2) := by decide +kernel
theorem dX10_trueWind_79 : decode cX10_trueWind 79 = .ok (.iload 8, 2) := by decide +kernel
theorem dX10_trueWind_81 : decode cX10_trueWind 81 = .ok (.istore 6, 2) := by decide +kernel
theorem dX10_trueWind_83 : decode cX10_trueWind 83 = .ok (.iinc 7 1, 3) := by decide +kernel
theorem dX10_trueWind_86 : decode cX10_trueWind 86 = .ok (.goto (-54), 3) := by decide +kernel
theorem dX10_trueWind_89 : decode cX10_trueWind 89 = .ok (.iload_n 3, 1) := by decide +kernel
theorem dX10_trueWind_90 : decode cX10_trueWind 90 = .ok (.ifCond .ne 8, 3) := by decide +kernel
theorem dX10_trueWind_93 : decode cX10_trueWind 93 = .ok (.iload 4, 2) := by decide +kernel
theorem dX10_trueWind_95 : decode cX10_trueWind 95 = .ok (.goto 15, 3) := by decide +kernel
theorem dX10_trueWind_98 : decode cX10_trueWind 98 = .ok (.iload_n 3, 1) := by decide +kernel
theorem dX10_trueWind_99 : decode cX10_trueWind 99 = .ok (.iconst 1, 1) := by decide +kernel
theorem dX10_trueWind_100 : decode cX10_trueWind 100 = .ok (.if_icmp .ne 8, 3) := by decide +kernel
theorem dX10_trueWind_103 : decode cX10_trueWind 103 = .ok (.iload 5, 2) := by decide +kernel
theorem dX10_trueWind_105 : decode cX10_trueWind 105 = .ok (.goto 5, 3) := by decide +kernel
theorem dX10_trueWind_108 : decode cX10_trueWind 108 = .ok (.iload 6, 2) := by decide +kernel
theorem dX10_trueWind_110 : decode cX10_trueWind 110 = .ok (.ireturn, 1) := by decide +kernel
theorem dX10_after_0 : decode cX10_after 0 = .ok (.aload_n 0, 1) := by decide +kernel
theorem dX10_after_1 : decode cX10_after 1 = .ok (.iload_n 1, 1) := by decide +kernel
theorem dX10_after_2 : decode cX10_after 2 = .ok (.iload_n 2, 1) := by decide +kernel
theorem dX10_after_3 : decode cX10_after 3 = .ok (.iload_n 3, 1) := by decide +kernel
theorem dX10_after_4 : decode cX10_after 4 = .ok (.invokevirtual 187, 3) := by decide +kernel
theorem dX10_after_7 : decode cX10_after 7 = .ok (.ifCond .eq 21, 3) := by decide +kernel
theorem dX10_after_10 : decode cX10_after 10 = .ok (.iload 4, 2) := by decide +kernel
theorem dX10_after_12 : decode cX10_after 12 = .ok (.iconst 4, 1) := by decide +kernel
theorem dX10_after_13 : decode cX10_after 13 = .ok (.invokestatic 175, 3) := by decide +kernel
theorem dX10_after_16 : decode cX10_after 16 = .ok (.ifCond .eq 12, 3) := by decide +kernel
theorem dX10_after_19 : decode cX10_after 19 = .ok (.iload 5, 2) := by decide +kernel
theorem dX10_after_21 : decode cX10_after 21 = .ok (.iconst 2, 1) := by decide +kernel
theorem dX10_after_22 : decode cX10_after 22 = .ok (.invokestatic 175, 3) := by decide +kernel
theorem dX10_after_25 : decode cX10_after 25 = .ok (.ifCond .ne 5, 3) := by decide +kernel
theorem dX10_after_28 : decode cX10_after 28 = .ok (.iconst (-1), 1) := by decide +kernel
theorem dX10_after_29 : decode cX10_after 29 = .ok (.ireturn, 1) := by decide +kernel
theorem dX10_after_30 : decode cX10_after 30 = .ok (.aload_n 0, 1) := by decide +kernel
theorem dX10_after_31 : decode cX10_after 31 = .ok (.iload_n 1, 1) := by decide +kernel
theorem dX10_after_32 : decode cX10_after 32 = .ok (.iload_n 2, 1) := by decide +kernel
theorem dX10_after_33 : decode cX10_after 33 = .ok (.iload_n 3, 1) := by decide +kernel
theorem dX10_after_34 : decode cX10_after 34 = .ok (.iload 4, 2) := by decide +kernel
theorem dX10_after_36 : decode cX10_after 36 = .ok (.aload_n 0, 1) := by decide +kernel
theorem dX10_after_37 : decode cX10_after 37 = .ok (.getfield 42, 3) := by decide +kernel
theorem dX10_after_40 : decode cX10_after 40 = .ok (.getfield 168, 3) := by decide +kernel
theorem dX10_after_43 : decode cX10_after 43 = .ok (.invokevirtual 255, 3) := by decide +kernel
theorem dX10_after_46 : decode cX10_after 46 = .ok (.istore 6, 2) := by decide +kernel
theorem dX10_after_48 : decode cX10_after 48 = .ok (.iload 5, 2) := by decide +kernel
theorem dX10_after_50 : decode cX10_after 50 = .ok (.ifCond .ne 8, 3) := by decide +kernel
theorem dX10_after_53 : decode cX10_after 53 = .ok (.iload 6, 2) := by decide +kernel
theorem dX10_after_55 : decode cX10_after 55 = .ok (.goto 9, 3) := by decide +kernel
theorem dX10_after_58 : decode cX10_after 58 = .ok (.iload 6, 2) := by decide +kernel
theorem dX10_after_60 : decode cX10_after 60 = .ok (.iload_n 2, 1) := by decide +kernel
theorem dX10_after_61 : decode cX10_after 61 = .ok (.invokestatic 259, 3) := by decide +kernel
theorem dX10_after_64 : decode cX10_after 64 = .ok (.ireturn, 1) := by decide +kernel
theorem dX10_felled_0 : decode cX10_felled 0 = .ok (.aload_n 0, 1) := by decide +kernel
theorem dX10_felled_1 : decode cX10_felled 1 = .ok (.iload_n 1, 1) := by decide +kernel
theorem dX10_felled_2 : decode cX10_felled 2 = .ok (.iload_n 2, 1) := by decide +kernel
theorem dX10_felled_3 : decode cX10_felled 3 = .ok (.iload_n 3, 1) := by decide +kernel
theorem dX10_felled_4 : decode cX10_felled 4 = .ok (.invokevirtual 187, 3) := by decide +kernel
theorem dX10_felled_7 : decode cX10_felled 7 = .ok (.ifCond .eq 12, 3) := by decide +kernel
theorem dX10_felled_10 : decode cX10_felled 10 = .ok (.iload 4, 2) := by decide +kernel
theorem dX10_felled_12 : decode cX10_felled 12 = .ok (.iconst 4, 1) := by decide +kernel
theorem dX10_felled_13 : decode cX10_felled 13 = .ok (.invokestatic 175, 3) := by decide +kernel
theorem dX10_felled_16 : decode cX10_felled 16 = .ok (.ifCond .ne 5, 3) := by decide +kernel
theorem dX10_felled_19 : decode cX10_felled 19 = .ok (.iconst (-1), 1) := by decide +kernel
theorem dX10_felled_20 : decode cX10_felled 20 = .ok (.ireturn, 1) := by decide +kernel
theorem dX10_felled_21 : decode cX10_felled 21 = .ok (.aload_n 0, 1) := by decide +kernel
theorem dX10_felled_22 : decode cX10_felled 22 = .ok (.iload_n 1, 1) := by decide +kernel
theorem dX10_felled_23 : decode cX10_felled 23 = .ok (.iload_n 2, 1) := by decide +kernel
theorem dX10_felled_24 : decode cX10_felled 24 = .ok (.iload_n 3, 1) := by decide +kernel
theorem dX10_felled_25 : decode cX10_felled 25 = .ok (.iload 4, 2) := by decide +kernel
theorem dX10_felled_27 : decode cX10_felled 27 = .ok (.aload_n 0, 1) := by decide +kernel
theorem dX10_felled_28 : decode cX10_felled 28 = .ok (.getfield 42, 3) := by decide +kernel
theorem dX10_felled_31 : decode cX10_felled 31 = .ok (.getfield 168, 3) := by decide +kernel
theorem dX10_felled_34 : decode cX10_felled 34 = .ok (.invokevirtual 255, 3) := by decide +kernel
theorem dX10_felled_37 : decode cX10_felled 37 = .ok (.iload_n 2, 1) := by decide +kernel
theorem dX10_felled_38 : decode cX10_felled 38 = .ok (.if_icmp .ne 6, 3) := by decide +kernel
theorem dX10_felled_41 : decode cX10_felled 41 = .ok (.bipush (-3), 2) := by decide +kernel
theorem dX10_felled_43 : decode cX10_felled 43 = .ok (.ireturn, 1) := by decide +kernel
theorem dX10_felled_44 : decode cX10_felled 44 = .ok (.iconst 0, 1) := by decide +kernel
theorem dX10_felled_45 : decode cX10_felled 45 = .ok (.istore 5, 2) := by decide +kernel
theorem dX10_felled_47 : decode cX10_felled 47 = .ok (.iload 5, 2) := by decide +kernel
theorem dX10_felled_49 : decode cX10_felled 49 = .ok (.aload_n 0, 1) := by decide +kernel
theorem dX10_felled_50 : decode cX10_felled 50 = .ok (.getfield 42, 3) := by decide +kernel
theorem dX10_felled_53 : decode cX10_felled 53 = .ok (.getfield 262, 3) := by decide +kernel
theorem dX10_felled_56 : decode cX10_felled 56 = .ok (.if_icmp .ge 44, 3) := by decide +kernel
theorem dX10_felled_59 : decode cX10_felled 59 = .ok (.iload 5, 2) := by decide +kernel
theorem dX10_felled_61 : decode cX10_felled 61 = .ok (.bipush 12, 2) := by decide +kernel
theorem dX10_felled_63 : decode cX10_felled 63 = .ok (.if_icmp .ge 37, 3) := by decide +kernel
theorem dX10_felled_66 : decode cX10_felled 66 = .ok (.aload_n 0, 1) := by decide +kernel
theorem dX10_felled_67 : decode cX10_felled 67 = .ok (.iload_n 1, 1) := by decide +kernel
theorem dX10_felled_68 : decode cX10_felled 68 = .ok (.iload_n 2, 1) := by decide +kernel
theorem dX10_felled_69 : decode cX10_felled 69 = .ok (.iload_n 3, 1) := by decide +kernel
theorem dX10_felled_70 : decode cX10_felled 70 = .ok (.iload 4, 2) := by decide +kernel
theorem dX10_felled_72 : decode cX10_felled 72 = .ok (.aload_n 0, 1) := by decide +kernel
theorem dX10_felled_73 : decode cX10_felled 73 = .ok (.getfield 42, 3) := by decide +kernel
theorem dX10_felled_76 : decode cX10_felled 76 = .ok (.getfield 168, 3) := by decide +kernel
theorem dX10_felled_79 : decode cX10_felled 79 = .ok (.iconst 1, 1) := by decide +kernel
theorem dX10_felled_80 : decode cX10_felled 80 = .ok (.iload 5, 2) := by decide +kernel
theorem dX10_felled_82 : decode cX10_felled 82 = .ok (.ishl, 1) := by decide +kernel
theorem dX10_felled_83 : decode cX10_felled 83 = .ok (.ior, 1) := by decide +kernel
theorem dX10_felled_84 : decode cX10_felled 84 = .ok (.invokevirtual 255, 3) := by decide +kernel
theorem dX10_felled_87 : decode cX10_felled 87 = .ok (.iload_n 2, 1) := by decide +kernel
theorem dX10_felled_88 : decode cX10_felled 88 = .ok (.if_icmp .ne 6, 3) := by decide +kernel
theorem dX10_felled_91 : decode cX10_felled 91 = .ok (.iload 5, 2) := by decide +kernel
theorem dX10_felled_93 : decode cX10_felled 93 = .ok (.ireturn, 1) := by decide +kernel
theorem dX10_felled_94 : decode cX10_felled 94 = .ok (.iinc 5 1, 3) := by decide +kernel
theorem dX10_felled_97 : decode cX10_felled 97 = .ok (.goto (-50), 3) := by decide +kernel
theorem dX10_felled_100 : decode cX10_felled 100 = .ok (.bipush (-2), 2) := by decide +kernel
theorem dX10_felled_102 : decode cX10_felled 102 = .ok (.ireturn, 1) := by decide +kernel
theorem dX10_oiled_0 : decode cX10_oiled 0 = .ok (.aload_n 0, 1) := by decide +kernel
theorem dX10_oiled_1 : decode cX10_oiled 1 = .ok (.iload_n 1, 1) := by decide +kernel
theorem dX10_oiled_2 : decode cX10_oiled 2 = .ok (.iload_n 2, 1) := by decide +kernel
theorem dX10_oiled_3 : decode cX10_oiled 3 = .ok (.iload_n 3, 1) := by decide +kernel
theorem dX10_oiled_4 : decode cX10_oiled 4 = .ok (.invokevirtual 187, 3) := by decide +kernel
theorem dX10_oiled_7 : decode cX10_oiled 7 = .ok (.ifCond .eq 21, 3) := by decide +kernel
theorem dX10_oiled_10 : decode cX10_oiled 10 = .ok (.iload 4, 2) := by decide +kernel
theorem dX10_oiled_12 : decode cX10_oiled 12 = .ok (.iconst 4, 1) := by decide +kernel
theorem dX10_oiled_13 : decode cX10_oiled 13 = .ok (.invokestatic 175, 3) := by decide +kernel
theorem dX10_oiled_16 : decode cX10_oiled 16 = .ok (.ifCond .eq 12, 3) := by decide +kernel
theorem dX10_oiled_19 : decode cX10_oiled 19 = .ok (.iload 5, 2) := by decide +kernel
theorem dX10_oiled_21 : decode cX10_oiled 21 = .ok (.iconst 2, 1) := by decide +kernel
theorem dX10_oiled_22 : decode cX10_oiled 22 = .ok (.invokestatic 175, 3) := by decide +kernel
theorem dX10_oiled_25 : decode cX10_oiled 25 = .ok (.ifCond .ne 5, 3) := by decide +kernel
theorem dX10_oiled_28 : decode cX10_oiled 28 = .ok (.iconst (-1), 1) := by decide +kernel
theorem dX10_oiled_29 : decode cX10_oiled 29 = .ok (.ireturn, 1) := by decide +kernel
theorem dX10_oiled_30 : decode cX10_oiled 30 = .ok (.aload_n 0, 1) := by decide +kernel
theorem dX10_oiled_31 : decode cX10_oiled 31 = .ok (.getfield 66, 3) := by decide +kernel
theorem dX10_oiled_34 : decode cX10_oiled 34 = .ok (.aload_n 0, 1) := by decide +kernel
theorem dX10_oiled_35 : decode cX10_oiled 35 = .ok (.getfield 55, 3) := by decide +kernel
theorem dX10_oiled_38 : decode cX10_oiled 38 = .ok (.iload_n 1, 1) := by decide +kernel
theorem dX10_oiled_39 : decode cX10_oiled 39 = .ok (.aaload, 1) := by decide +kernel
theorem dX10_oiled_40 : decode cX10_oiled 40 = .ok (.aload_n 0, 1) := by decide +kernel
theorem dX10_oiled_41 : decode cX10_oiled 41 = .ok (.getfield 42, 3) := by decide +kernel
theorem dX10_oiled_44 : decode cX10_oiled 44 = .ok (.iload_n 2, 1) := by decide +kernel
theorem dX10_oiled_45 : decode cX10_oiled 45 = .ok (.iload_n 3, 1) := by decide +kernel
theorem dX10_oiled_46 : decode cX10_oiled 46 = .ok (.aload_n 0, 1) := by decide +kernel
theorem dX10_oiled_47 : decode cX10_oiled 47 = .ok (.getfield 42, 3) := by decide +kernel
theorem dX10_oiled_50 : decode cX10_oiled 50 = .ok (.getfield 168, 3) := by decide +kernel
theorem dX10_oiled_53 : decode cX10_oiled 53 = .ok (.aload_n 0, 1) := by decide +kernel
theorem dX10_oiled_54 : decode cX10_oiled 54 = .ok (.getfield 82, 3) := by decide +kernel
theorem dX10_oiled_57 : decode cX10_oiled 57 = .ok (.getfield 265, 3) := by decide +kernel
theorem dX10_oiled_60 : decode cX10_oiled 60 = .ok (.invokevirtual 191, 3) := by decide +kernel
theorem dX10_oiled_63 : decode cX10_oiled 63 = .ok (.iconst 0, 1) := by decide +kernel
theorem dX10_oiled_64 : decode cX10_oiled 64 = .ok (.istore 6, 2) := by decide +kernel
theorem dX10_oiled_66 : decode cX10_oiled 66 = .ok (.iload 6, 2) := by decide +kernel
theorem dX10_oiled_68 : decode cX10_oiled 68 = .ok (.aload_n 0, 1) := by decide +kernel
theorem dX10_oiled_69 : decode cX10_oiled 69 = .ok (.getfield 42, 3) := by decide +kernel
theorem dX10_oiled_72 : decode cX10_oiled 72 = .ok (.getfield 128, 3) := by decide +kernel
theorem dX10_oiled_75 : decode cX10_oiled 75 = .ok (.if_icmp .ge 101, 3) := by decide +kernel
theorem dX10_oiled_78 : decode cX10_oiled 78 = .ok (.iload 6, 2) := by decide +kernel
theorem dX10_oiled_80 : decode cX10_oiled 80 = .ok (.bipush 12, 2) := by decide +kernel
theorem dX10_oiled_82 : decode cX10_oiled 82 = .ok (.if_icmp .ge 94, 3) := by decide +kernel
theorem dX10_oiled_85 : decode cX10_oiled 85 = .ok (.aload_n 0, 1) := by decide +kernel
theorem dX10_oiled_86 : decode cX10_oiled 86 = .ok (.getfield 66, 3) := by decide +kernel
theorem dX10_oiled_89 : decode cX10_oiled 89 = .ok (.aload_n 0, 1) := by decide +kernel
theorem dX10_oiled_90 : decode cX10_oiled 90 = .ok (.getfield 42, 3) := by decide +kernel
theorem dX10_oiled_93 : decode cX10_oiled 93 = .ok (.iload 6, 2) := by decide +kernel
theorem dX10_oiled_95 : decode cX10_oiled 95 = .ok (.iload_n 2, 1) := by decide +kernel
theorem dX10_oiled_96 : decode cX10_oiled 96 = .ok (.aload_n 0, 1) := by decide +kernel
theorem dX10_oiled_97 : decode cX10_oiled 97 = .ok (.getfield 42, 3) := by decide +kernel
theorem dX10_oiled_100 : decode cX10_oiled 100 = .ok (.getfield 168, 3) := by decide +kernel
theorem dX10_oiled_103 : decode cX10_oiled 103 = .ok (.invokevirtual 268, 3) := by decide +kernel
theorem dX10_oiled_106 : decode cX10_oiled 106 = .ok (.aload_n 0, 1) := by decide +kernel
theorem dX10_oiled_107 : decode cX10_oiled 107 = .ok (.getfield 66, 3) := by decide +kernel
theorem dX10_oiled_110 : decode cX10_oiled 110 = .ok (.getfield 271, 3) := by decide +kernel
theorem dX10_oiled_113 : decode cX10_oiled 113 = .ok (.iconst 1, 1) := by decide +kernel
theorem dX10_oiled_114 : decode cX10_oiled 114 = .ok (.iconst 0, 1) := by decide +kernel
theorem dX10_oiled_115 : decode cX10_oiled 115 = .ok (.iastore, 1) := by decide +kernel
theorem dX10_oiled_116 : decode cX10_oiled 116 = .ok (.aload_n 0, 1) := by decide +kernel
theorem dX10_oiled_117 : decode cX10_oiled 117 = .ok (.getfield 82, 3) := by decide +kernel
theorem dX10_oiled_120 : decode cX10_oiled 120 = .ok (.getfield 274, 3) := by decide +kernel
theorem dX10_oiled_123 : decode cX10_oiled 123 = .ok (.iload 6, 2) := by decide +kernel
theorem dX10_oiled_125 : decode cX10_oiled 125 = .ok (.aload_n 0, 1) := by decide +kernel
theorem dX10_oiled_126 : decode cX10_oiled 126 = .ok (.getfield 66, 3) := by decide +kernel
theorem dX10_oiled_129 : decode cX10_oiled 129 = .ok (.aload_n 0, 1) := by decide +kernel
theorem dX10_oiled_130 : decode cX10_oiled 130 = .ok (.getfield 55, 3) := by decide +kernel
theorem dX10_oiled_133 : decode cX10_oiled 133 = .ok (.iload_n 1, 1) := by decide +kernel
theorem dX10_oiled_134 : decode cX10_oiled 134 = .ok (.aaload, 1) := by decide +kernel
theorem dX10_oiled_135 : decode cX10_oiled 135 = .ok (.aload_n 0, 1) := by decide +kernel
theorem dX10_oiled_136 : decode cX10_oiled 136 = .ok (.getfield 42, 3) := by decide +kernel
theorem dX10_oiled_139 : decode cX10_oiled 139 = .ok (.getfield 153, 3) := by decide +kernel
theorem dX10_oiled_142 : decode cX10_oiled 142 = .ok (.iload 6, 2) := by decide +kernel
theorem dX10_oiled_144 : decode cX10_oiled 144 = .ok (.iaload, 1) := by decide +kernel
theorem dX10_oiled_145 : decode cX10_oiled 145 = .ok (.iload_n 3, 1) := by decide +kernel
theorem dX10_oiled_146 : decode cX10_oiled 146 = .ok (.invokevirtual 277, 3) := by decide +kernel
theorem dX10_oiled_149 : decode cX10_oiled 149 = .ok (.iastore, 1) := by decide +kernel
theorem dX10_oiled_150 : decode cX10_oiled 150 = .ok (.aload_n 0, 1) := by decide +kernel
theorem dX10_oiled_151 : decode cX10_oiled 151 = .ok (.getfield 82, 3) := by decide +kernel
theorem dX10_oiled_154 : decode cX10_oiled 154 = .ok (.getfield 281, 3) := by decide +kernel
theorem dX10_oiled_157 : decode cX10_oiled 157 = .ok (.iload 6, 2) := by decide +kernel
theorem dX10_oiled_159 : decode cX10_oiled 159 = .ok (.aload_n 0, 1) := by decide +kernel
theorem dX10_oiled_160 : decode cX10_oiled 160 = .ok (.getfield 42, 3) := by decide +kernel
theorem dX10_oiled_163 : decode cX10_oiled 163 = .ok (.getfield 144, 3) := by decide +kernel
theorem dX10_oiled_166 : decode cX10_oiled 166 = .ok (.iload 6, 2) := by decide +kernel
theorem dX10_oiled_168 : decode cX10_oiled 168 = .ok (.iaload, 1) := by decide +kernel
theorem dX10_oiled_169 : decode cX10_oiled 169 = .ok (.iastore, 1) := by decide +kernel
theorem dX10_oiled_170 : decode cX10_oiled 170 = .ok (.iinc 6 1, 3) := by decide +kernel
theorem dX10_oiled_173 : decode cX10_oiled 173 = .ok (.goto (-107), 3) := by decide +kernel
theorem dX10_oiled_176 : decode cX10_oiled 176 = .ok (.aload_n 0, 1) := by decide +kernel
theorem dX10_oiled_177 : decode cX10_oiled 177 = .ok (.getfield 82, 3) := by decide +kernel
theorem dX10_oiled_180 : decode cX10_oiled 180 = .ok (.aload_n 0, 1) := by decide +kernel
theorem dX10_oiled_181 : decode cX10_oiled 181 = .ok (.getfield 42, 3) := by decide +kernel
theorem dX10_oiled_184 : decode cX10_oiled 184 = .ok (.iload 4, 2) := by decide +kernel
theorem dX10_oiled_186 : decode cX10_oiled 186 = .ok (.iload_n 2, 1) := by decide +kernel
theorem dX10_oiled_187 : decode cX10_oiled 187 = .ok (.iconst (-1), 1) := by decide +kernel
theorem dX10_oiled_188 : decode cX10_oiled 188 = .ok (.invokevirtual 218, 3) := by decide +kernel
theorem dX10_oiled_191 : decode cX10_oiled 191 = .ok (.aload_n 0, 1) := by decide +kernel
theorem dX10_oiled_192 : decode cX10_oiled 192 = .ok (.getfield 82, 3) := by decide +kernel
theorem dX10_oiled_195 : decode cX10_oiled 195 = .ok (.iload 5, 2) := by decide +kernel
theorem dX10_oiled_197 : decode cX10_oiled 197 = .ok (.invokevirtual 222, 3) := by decide +kernel
theorem dX10_oiled_200 : decode cX10_oiled 200 = .ok (.ireturn, 1) := by decide +kernel
theorem dX10_bestPoint_0 : decode cX10_bestPoint 0 = .ok (.aload_n 0, 1) := by decide +kernel
theorem dX10_bestPoint_1 : decode cX10_bestPoint 1 = .ok (.iload_n 1, 1) := by decide +kernel
theorem dX10_bestPoint_2 : decode cX10_bestPoint 2 = .ok (.iconst 0, 1) := by decide +kernel
theorem dX10_bestPoint_3 : decode cX10_bestPoint 3 = .ok (.invokevirtual 205, 3) := by decide +kernel
theorem dX10_bestPoint_6 : decode cX10_bestPoint 6 = .ok (.ifCond .eq 31, 3) := by decide +kernel
theorem dX10_bestPoint_9 : decode cX10_bestPoint 9 = .ok (.iload_n 2, 1) := by decide +kernel
theorem dX10_bestPoint_10 : decode cX10_bestPoint 10 = .ok (.iconst 4, 1) := by decide +kernel
theorem dX10_bestPoint_11 : decode cX10_bestPoint 11 = .ok (.invokestatic 175, 3) := by decide +kernel
theorem dX10_bestPoint_14 : decode cX10_bestPoint 14 = .ok (.ifCond .eq 23, 3) := by decide +kernel
theorem dX10_bestPoint_17 : decode cX10_bestPoint 17 = .ok (.iload_n 3, 1) := by decide +kernel
theorem dX10_bestPoint_18 : decode cX10_bestPoint 18 = .ok (.ifCond .lt 19, 3) := by decide +kernel
theorem dX10_bestPoint_21 : decode cX10_bestPoint 21 = .ok (.iload_n 3, 1) := by decide +kernel
theorem dX10_bestPoint_22 : decode cX10_bestPoint 22 = .ok (.sipush 9999, 3) := by decide +kernel
theorem dX10_bestPoint_25 : decode cX10_bestPoint 25 = .ok (.if_icmp .gt 12, 3) := by decide +kernel
theorem dX10_bestPoint_28 : decode cX10_bestPoint 28 = .ok (.iload 4, 2) := by decide +kernel
theorem dX10_bestPoint_30 : decode cX10_bestPoint 30 = .ok (.iconst 2, 1) := by decide +kernel
theorem dX10_bestPoint_31 : decode cX10_bestPoint 31 = .ok (.invokestatic 175, 3) := by decide +kernel
theorem dX10_bestPoint_34 : decode cX10_bestPoint 34 = .ok (.ifCond .ne 5, 3) := by decide +kernel
theorem dX10_bestPoint_37 : decode cX10_bestPoint 37 = .ok (.iconst (-1), 1) := by decide +kernel
theorem dX10_bestPoint_38 : decode cX10_bestPoint 38 = .ok (.ireturn, 1) := by decide +kernel
theorem dX10_bestPoint_39 : decode cX10_bestPoint 39 = .ok (.iconst 0, 1) := by decide +kernel
theorem dX10_bestPoint_40 : decode cX10_bestPoint 40 = .ok (.istore 5, 2) := by decide +kernel
theorem dX10_bestPoint_42 : decode cX10_bestPoint 42 = .ok (.iconst (-1), 1) := by decide +kernel
theorem dX10_bestPoint_43 : decode cX10_bestPoint 43 = .ok (.istore 6, 2) := by decide +kernel
theorem dX10_bestPoint_45 : decode cX10_bestPoint 45 = .ok (.aload_n 0, 1) := by decide +kernel
theorem dX10_bestPoint_46 : decode cX10_bestPoint 46 = .ok (.getfield 42, 3) := by decide +kernel
theorem dX10_bestPoint_49 : decode cX10_bestPoint 49 = .ok (.iload_n 2, 1) := by decide +kernel
theorem dX10_bestPoint_50 : decode cX10_bestPoint 50 = .ok (.invokevirtual 284, 3) := by decide +kernel
theorem dX10_bestPoint_53 : decode cX10_bestPoint 53 = .ok (.istore 7, 2) := by decide +kernel
theorem dX10_bestPoint_55 : decode cX10_bestPoint 55 = .ok (.aload_n 0, 1) := by decide +kernel
theorem dX10_bestPoint_56 : decode cX10_bestPoint 56 = .ok (.getfield 82, 3) := by decide +kernel
theorem dX10_bestPoint_59 : decode cX10_bestPoint 59 = .ok (.aload_n 0, 1) := by decide +kernel
theorem dX10_bestPoint_60 : decode cX10_bestPoint 60 = .ok (.getfield 42, 3) := by decide +kernel
theorem dX10_bestPoint_63 : decode cX10_bestPoint 63 = .ok (.invokevirtual 211, 3) := by decide +kernel
theorem dX10_bestPoint_66 : decode cX10_bestPoint 66 = .ok (.iconst 0, 1) := by decide +kernel
theorem dX10_bestPoint_67 : decode cX10_bestPoint 67 = .ok (.istore 8, 2) := by decide +kernel
theorem dX10_bestPoint_69 : decode cX10_bestPoint 69 = .ok (.iload 8, 2) := by decide +kernel
theorem dX10_bestPoint_71 : decode cX10_bestPoint 71 = .ok (.bipush 8, 2) := by decide +kernel
theorem dX10_bestPoint_73 : decode cX10_bestPoint 73 = .ok (.if_icmp .ge 106, 3) := by decide +kernel
theorem dX10_bestPoint_76 : decode cX10_bestPoint 76 = .ok (.aload_n 0, 1) := by decide +kernel
theorem dX10_bestPoint_77 : decode cX10_bestPoint 77 = .ok (.getfield 82, 3) := by decide +kernel
theorem dX10_bestPoint_80 : decode cX10_bestPoint 80 = .ok (.aload_n 0, 1) := by decide +kernel
theorem dX10_bestPoint_81 : decode cX10_bestPoint 81 = .ok (.getfield 42, 3) := by decide +kernel
theorem dX10_bestPoint_84 : decode cX10_bestPoint 84 = .ok (.iload 8, 2) := by decide +kernel
theorem dX10_bestPoint_86 : decode cX10_bestPoint 86 = .ok (.invokevirtual 214, 3) := by decide +kernel
theorem dX10_bestPoint_89 : decode cX10_bestPoint 89 = .ok (.aload_n 0, 1) := by decide +kernel
theorem dX10_bestPoint_90 : decode cX10_bestPoint 90 = .ok (.getfield 82, 3) := by decide +kernel
theorem dX10_bestPoint_93 : decode cX10_bestPoint 93 = .ok (.aload_n 0, 1) := by decide +kernel
theorem dX10_bestPoint_94 : decode cX10_bestPoint 94 = .ok (.getfield 42, 3) := by decide +kernel
theorem dX10_bestPoint_97 : decode cX10_bestPoint 97 = .ok (.iload_n 1, 1) := by decide +kernel
theorem dX10_bestPoint_98 : decode cX10_bestPoint 98 = .ok (.iload 8, 2) := by decide +kernel
theorem dX10_bestPoint_100 : decode cX10_bestPoint 100 = .ok (.iload 7, 2) := by decide +kernel
theorem dX10_bestPoint_102 : decode cX10_bestPoint 102 = .ok (.invokevirtual 218, 3) := by decide +kernel
theorem dX10_bestPoint_105 : decode cX10_bestPoint 105 = .ok (.aload_n 0, 1) := by decide +kernel
theorem dX10_bestPoint_106 : decode cX10_bestPoint 106 = .ok (.getfield 82, 3) := by decide +kernel
theorem dX10_bestPoint_109 : decode cX10_bestPoint 109 = .ok (.getfield 226, 3) := by decide +kernel
theorem dX10_bestPoint_112 : decode cX10_bestPoint 112 = .ok (.ifCond .eq 61, 3) := by decide +kernel
theorem dX10_bestPoint_115 : decode cX10_bestPoint 115 = .ok (.aload_n 0, 1) := by decide +kernel
theorem dX10_bestPoint_116 : decode cX10_bestPoint 116 = .ok (.getfield 82, 3) := by decide +kernel
theorem dX10_bestPoint_119 : decode cX10_bestPoint 119 = .ok (.getfield 236, 3) := by decide +kernel
theorem dX10_bestPoint_122 : decode cX10_bestPoint 122 = .ok (.iload_n 3, 1) := by decide +kernel
theorem dX10_bestPoint_123 : decode cX10_bestPoint 123 = .ok (.if_icmp .gt 50, 3) := by decide +kernel
theorem dX10_bestPoint_126 : decode cX10_bestPoint 126 = .ok (.aload_n 0, 1) := by decide +kernel
theorem dX10_bestPoint_127 : decode cX10_bestPoint 127 = .ok (.getfield 42, 3) := by decide +kernel
theorem dX10_bestPoint_130 : decode cX10_bestPoint 130 = .ok (.iload_n 2, 1) := by decide +kernel
theorem dX10_bestPoint_131 : decode cX10_bestPoint 131 = .ok (.iload 8, 2) := by decide +kernel
theorem dX10_bestPoint_133 : decode cX10_bestPoint 133 = .ok (.invokevirtual 179, 3) := by decide +kernel
theorem dX10_bestPoint_136 : decode cX10_bestPoint 136 = .ok (.aload_n 0, 1) := by decide +kernel
theorem dX10_bestPoint_137 : decode cX10_bestPoint 137 = .ok (.getfield 82, 3) := by decide +kernel
theorem dX10_bestPoint_140 : decode cX10_bestPoint 140 = .ok (.getfield 236, 3) := by decide +kernel
theorem dX10_bestPoint_143 : decode cX10_bestPoint 143 = .ok (.isub, 1) := by decide +kernel
theorem dX10_bestPoint_144 : decode cX10_bestPoint 144 = .ok (.iload 6, 2) := by decide +kernel
theorem dX10_bestPoint_146 : decode cX10_bestPoint 146 = .ok (.if_icmp .le 27, 3) := by decide +kernel
theorem dX10_bestPoint_149 : decode cX10_bestPoint 149 = .ok (.iload 8, 2) := by decide +kernel
theorem dX10_bestPoint_151 : decode cX10_bestPoint 151 = .ok (.istore 5, 2) := by decide +kernel
theorem dX10_bestPoint_153 : decode cX10_bestPoint 153 = .ok (.aload_n 0, 1) := by decide +kernel
theorem dX10_bestPoint_154 : decode cX10_bestPoint 154 = .ok (.getfield 42, 3) := by decide +kernel
theorem dX10_bestPoint_157 : decode cX10_bestPoint 157 = .ok (.iload_n 2, 1) := by decide +kernel
theorem dX10_bestPoint_158 : decode cX10_bestPoint 158 = .ok (.iload 8, 2) := by decide +kernel
theorem dX10_bestPoint_160 : decode cX10_bestPoint 160 = .ok (.invokevirtual 179, 3) := by decide +kernel
theorem dX10_bestPoint_163 : decode cX10_bestPoint 163 = .ok (.aload_n 0, 1) := by decide +kernel
theorem dX10_bestPoint_164 : decode cX10_bestPoint 164 = .ok (.getfield 82, 3) := by decide +kernel
theorem dX10_bestPoint_167 : decode cX10_bestPoint 167 = .ok (.getfield 236, 3) := by decide +kernel
theorem dX10_bestPoint_170 : decode cX10_bestPoint 170 = .ok (.isub, 1) := by decide +kernel
theorem dX10_bestPoint_171 : decode cX10_bestPoint 171 = .ok (.istore 6, 2) := by decide +kernel
theorem dX10_bestPoint_173 : decode cX10_bestPoint 173 = .ok (.iinc 8 1, 3) := by decide +kernel
theorem dX10_bestPoint_176 : decode cX10_bestPoint 176 = .ok (.goto (-107), 3) := by decide +kernel
theorem dX10_bestPoint_179 : decode cX10_bestPoint 179 = .ok (.iload 4, 2) := by decide +kernel
theorem dX10_bestPoint_181 : decode cX10_bestPoint 181 = .ok (.ifCond .ne 8, 3) := by decide +kernel
theorem dX10_bestPoint_184 : decode cX10_bestPoint 184 = .ok (.iload 5, 2) := by decide +kernel
theorem dX10_bestPoint_186 : decode cX10_bestPoint 186 = .ok (.goto 5, 3) := by decide +kernel
theorem dX10_bestPoint_189 : decode cX10_bestPoint 189 = .ok (.iload 6, 2) := by decide +kernel
theorem dX10_bestPoint_191 : decode cX10_bestPoint 191 = .ok (.ireturn, 1) := by decide +kernel
theorem dX10_seed_0 : decode cX10_seed 0 = .ok (.iload_n 1, 1) := by decide +kernel
theorem dX10_seed_1 : decode cX10_seed 1 = .ok (.ifCond .ge 5, 3) := by decide +kernel
theorem dX10_seed_4 : decode cX10_seed 4 = .ok (.iconst (-1), 1) := by decide +kernel
theorem dX10_seed_5 : decode cX10_seed 5 = .ok (.ireturn, 1) := by decide +kernel
theorem dX10_seed_6 : decode cX10_seed 6 = .ok (.aload_n 0, 1) := by decide +kernel
theorem dX10_seed_7 : decode cX10_seed 7 = .ok (.getfield 42, 3) := by decide +kernel
theorem dX10_seed_10 : decode cX10_seed 10 = .ok (.getfield 121, 3) := by decide +kernel
theorem dX10_seed_13 : decode cX10_seed 13 = .ok (.istore_n 2, 1) := by decide +kernel
theorem dX10_seed_14 : decode cX10_seed 14 = .ok (.aload_n 0, 1) := by decide +kernel
theorem dX10_seed_15 : decode cX10_seed 15 = .ok (.getfield 42, 3) := by decide +kernel
theorem dX10_seed_18 : decode cX10_seed 18 = .ok (.iload_n 1, 1) := by decide +kernel
theorem dX10_seed_19 : decode cX10_seed 19 = .ok (.putfield 121, 3) := by decide +kernel
theorem dX10_seed_22 : decode cX10_seed 22 = .ok (.iload_n 2, 1) := by decide +kernel
theorem dX10_seed_23 : decode cX10_seed 23 = .ok (.ireturn, 1) := by decide +kernel
theorem dX10_lot_0 : decode cX10_lot 0 = .ok (.aload_n 0, 1) := by decide +kernel
theorem dX10_lot_1 : decode cX10_lot 1 = .ok (.invokevirtual 171, 3) := by decide +kernel
theorem dX10_lot_4 : decode cX10_lot 4 = .ok (.ifCond .ne 5, 3) := by decide +kernel
theorem dX10_lot_7 : decode cX10_lot 7 = .ok (.iconst (-1), 1) := by decide +kernel
theorem dX10_lot_8 : decode cX10_lot 8 = .ok (.ireturn, 1) := by decide +kernel
theorem dX10_lot_9 : decode cX10_lot 9 = .ok (.aload_n 0, 1) := by decide +kernel
theorem dX10_lot_10 : decode cX10_lot 10 = .ok (.getfield 42, 3) := by decide +kernel
theorem dX10_lot_13 : decode cX10_lot 13 = .ok (.aload_n 0, 1) := by decide +kernel
theorem dX10_lot_14 : decode cX10_lot 14 = .ok (.getfield 42, 3) := by decide +kernel
theorem dX10_lot_17 : decode cX10_lot 17 = .ok (.getfield 121, 3) := by decide +kernel
theorem dX10_lot_20 : decode cX10_lot 20 = .ok (.invokestatic 287, 3) := by decide +kernel
theorem dX10_lot_23 : decode cX10_lot 23 = .ok (.putfield 121, 3) := by decide +kernel
theorem dX10_lot_26 : decode cX10_lot 26 = .ok (.aload_n 0, 1) := by decide +kernel
theorem dX10_lot_27 : decode cX10_lot 27 = .ok (.getfield 42, 3) := by decide +kernel
theorem dX10_lot_30 : decode cX10_lot 30 = .ok (.getfield 121, 3) := by decide +kernel
theorem dX10_lot_33 : decode cX10_lot 33 = .ok (.ldc_w 290, 3) := by decide +kernel
theorem dX10_lot_36 : decode cX10_lot 36 = .ok (.idiv, 1) := by decide +kernel
theorem dX10_lot_37 : decode cX10_lot 37 = .ok (.aload_n 0, 1) := by decide +kernel
theorem dX10_lot_38 : decode cX10_lot 38 = .ok (.getfield 42, 3) := by decide +kernel
theorem dX10_lot_41 : decode cX10_lot 41 = .ok (.getfield 128, 3) := by decide +kernel
theorem dX10_lot_44 : decode cX10_lot 44 = .ok (.irem, 1) := by decide +kernel
theorem dX10_lot_45 : decode cX10_lot 45 = .ok (.istore_n 1, 1) := by decide +kernel
theorem dX10_lot_46 : decode cX10_lot 46 = .ok (.aload_n 0, 1) := by decide +kernel
theorem dX10_lot_47 : decode cX10_lot 47 = .ok (.getfield 42, 3) := by decide +kernel
theorem dX10_lot_50 : decode cX10_lot 50 = .ok (.iload_n 1, 1) := by decide +kernel
theorem dX10_lot_51 : decode cX10_lot 51 = .ok (.invokevirtual 134, 3) := by decide +kernel
theorem dX10_lot_54 : decode cX10_lot 54 = .ok (.ifCond .eq 15, 3) := by decide +kernel
theorem dX10_lot_57 : decode cX10_lot 57 = .ok (.aload_n 0, 1) := by decide +kernel
theorem dX10_lot_58 : decode cX10_lot 58 = .ok (.getfield 42, 3) := by decide +kernel
theorem dX10_lot_61 : decode cX10_lot 61 = .ok (.getfield 153, 3) := by decide +kernel
theorem dX10_lot_64 : decode cX10_lot 64 = .ok (.iload_n 1, 1) := by decide +kernel
theorem dX10_lot_65 : decode cX10_lot 65 = .ok (.iaload, 1) := by decide +kernel
theorem dX10_lot_66 : decode cX10_lot 66 = .ok (.goto 4, 3) := by decide +kernel
theorem dX10_lot_69 : decode cX10_lot 69 = .ok (.iconst (-1), 1) := by decide +kernel
theorem dX10_lot_70 : decode cX10_lot 70 = .ok (.ireturn, 1) := by decide +kernel
theorem dX10_years_0 : decode cX10_years 0 = .ok (.aload_n 0, 1) := by decide +kernel
theorem dX10_years_1 : decode cX10_years 1 = .ok (.iload_n 1, 1) := by decide +kernel
theorem dX10_years_2 : decode cX10_years 2 = .ok (.iconst 0, 1) := by decide +kernel
theorem dX10_years_3 : decode cX10_years 3 = .ok (.iload_n 3, 1) := by decide +kernel
theorem dX10_years_4 : decode cX10_years 4 = .ok (.invokevirtual 187, 3) := by decide +kernel
theorem dX10_years_7 : decode cX10_years 7 = .ok (.ifCond .eq 38, 3) := by decide +kernel
theorem dX10_years_10 : decode cX10_years 10 = .ok (.iload_n 3, 1) := by decide +kernel
theorem dX10_years_11 : decode cX10_years 11 = .ok (.iconst 1, 1) := by decide +kernel
theorem dX10_years_12 : decode cX10_years 12 = .ok (.if_icmp .lt 33, 3) := by decide +kernel
theorem dX10_years_15 : decode cX10_years 15 = .ok (.iload_n 2, 1) := by decide +kernel
theorem dX10_years_16 : decode cX10_years 16 = .ok (.iconst 1, 1) := by decide +kernel
theorem dX10_years_17 : decode cX10_years 17 = .ok (.if_icmp .lt 28, 3) := by decide +kernel
theorem dX10_years_20 : decode cX10_years 20 = .ok (.iload_n 2, 1) := by decide +kernel
theorem dX10_years_21 : decode cX10_years 21 = .ok (.sipush 366, 3) := by decide +kernel
theorem dX10_years_24 : decode cX10_years 24 = .ok (.if_icmp .gt 21, 3) := by decide +kernel
theorem dX10_years_27 : decode cX10_years 27 = .ok (.iload 4, 2) := by decide +kernel
theorem dX10_years_29 : decode cX10_years 29 = .ok (.iconst 4, 1) := by decide +kernel
theorem dX10_years_30 : decode cX10_years 30 = .ok (.invokestatic 175, 3) := by decide +kernel
theorem dX10_years_33 : decode cX10_years 33 = .ok (.ifCond .eq 12, 3) := by decide +kernel
theorem dX10_years_36 : decode cX10_years 36 = .ok (.iload 6, 2) := by decide +kernel
theorem dX10_years_38 : decode cX10_years 38 = .ok (.iconst 3, 1) := by decide +kernel
theorem dX10_years_39 : decode cX10_years 39 = .ok (.invokestatic 175, 3) := by decide +kernel
theorem dX10_years_42 : decode cX10_years 42 = .ok (.ifCond .ne 5, 3) := by decide +kernel
theorem dX10_years_45 : decode cX10_years 45 = .ok (.iconst (-1), 1) := by decide +kernel
theorem dX10_years_46 : decode cX10_years 46 = .ok (.ireturn, 1) := by decide +kernel
theorem dX10_years_47 : decode cX10_years 47 = .ok (.iload 5, 2) := by decide +kernel
theorem dX10_years_49 : decode cX10_years 49 = .ok (.iload 6, 2) := by decide +kernel
theorem dX10_years_51 : decode cX10_years 51 = .ok (.iconst 2, 1) := by decide +kernel
theorem dX10_years_52 : decode cX10_years 52 = .ok (.if_icmp .ne 7, 3) := by decide +kernel
theorem dX10_years_55 : decode cX10_years 55 = .ok (.iconst 4, 1) := by decide +kernel
theorem dX10_years_56 : decode cX10_years 56 = .ok (.goto 5, 3) := by decide +kernel
theorem dX10_years_59 : decode cX10_years 59 = .ok (.bipush 8, 2) := by decide +kernel
theorem dX10_years_61 : decode cX10_years 61 = .ok (.invokestatic 175, 3) := by decide +kernel
theorem dX10_years_64 : decode cX10_years 64 = .ok (.ifCond .ne 5, 3) := by decide +kernel
theorem dX10_years_67 : decode cX10_years 67 = .ok (.iconst (-1), 1) := by decide +kernel
theorem dX10_years_68 : decode cX10_years 68 = .ok (.ireturn, 1) := by decide +kernel
theorem dX10_years_69 : decode cX10_years 69 = .ok (.aload_n 0, 1) := by decide +kernel
theorem dX10_years_70 : decode cX10_years 70 = .ok (.getfield 91, 3) := by decide +kernel
theorem dX10_years_73 : decode cX10_years 73 = .ok (.aload_n 0, 1) := by decide +kernel
theorem dX10_years_74 : decode cX10_years 74 = .ok (.getfield 55, 3) := by decide +kernel
theorem dX10_years_77 : decode cX10_years 77 = .ok (.iload_n 1, 1) := by decide +kernel
theorem dX10_years_78 : decode cX10_years 78 = .ok (.aaload, 1) := by decide +kernel
theorem dX10_years_79 : decode cX10_years 79 = .ok (.iload_n 3, 1) := by decide +kernel
theorem dX10_years_80 : decode cX10_years 80 = .ok (.invokevirtual 291, 3) := by decide +kernel
theorem dX10_years_83 : decode cX10_years 83 = .ok (.iconst 0, 1) := by decide +kernel
theorem dX10_years_84 : decode cX10_years 84 = .ok (.istore 7, 2) := by decide +kernel
theorem dX10_years_86 : decode cX10_years 86 = .ok (.iconst 0, 1) := by decide +kernel
theorem dX10_years_87 : decode cX10_years 87 = .ok (.istore 8, 2) := by decide +kernel
theorem dX10_years_89 : decode cX10_years 89 = .ok (.iload 8, 2) := by decide +kernel
theorem dX10_years_91 : decode cX10_years 91 = .ok (.iload_n 2, 1) := by decide +kernel
theorem dX10_years_92 : decode cX10_years 92 = .ok (.if_icmp .ge 70, 3) := by decide +kernel
theorem dX10_years_95 : decode cX10_years 95 = .ok (.aload_n 0, 1) := by decide +kernel
theorem dX10_years_96 : decode cX10_years 96 = .ok (.getfield 91, 3) := by decide +kernel
theorem dX10_years_99 : decode cX10_years 99 = .ok (.iload 4, 2) := by decide +kernel
theorem dX10_years_101 : decode cX10_years 101 = .ok (.invokevirtual 295, 3) := by decide +kernel
theorem dX10_years_104 : decode cX10_years 104 = .ok (.istore 9, 2) := by decide +kernel
theorem dX10_years_106 : decode cX10_years 106 = .ok (.iload 6, 2) := by decide +kernel
theorem dX10_years_108 : decode cX10_years 108 = .ok (.iconst 2, 1) := by decide +kernel
theorem dX10_years_109 : decode cX10_years 109 = .ok (.if_icmp .ne 22, 3) := by decide +kernel
theorem dX10_years_112 : decode cX10_years 112 = .ok (.iload 7, 2) := by decide +kernel
theorem dX10_years_114 : decode cX10_years 114 = .ok (.aload_n 0, 1) := by decide +kernel
theorem dX10_years_115 : decode cX10_years 115 = .ok (.getfield 42, 3) := by decide +kernel
theorem dX10_years_118 : decode cX10_years 118 = .ok (.iload 5, 2) := by decide +kernel
theorem dX10_years_120 : decode cX10_years 120 = .ok (.iload 9, 2) := by decide +kernel
theorem dX10_years_122 : decode cX10_years 122 = .ok (.invokevirtual 179, 3) := by decide +kernel
theorem dX10_years_125 : decode cX10_years 125 = .ok (.iadd, 1) := by decide +kernel
theorem dX10_years_126 : decode cX10_years 126 = .ok (.istore 7, 2) := by decide +kernel
theorem dX10_years_128 : decode cX10_years 128 = .ok (.goto 28, 3) := by decide +kernel
theorem dX10_years_131 : decode cX10_years 131 = .ok (.iload 9, 2) := by decide +kernel
theorem dX10_years_133 : decode cX10_years 133 = .ok (.iload 6, 2) := by decide +kernel
theorem dX10_years_135 : decode cX10_years 135 = .ok (.ifCond .ne 8, 3) := by decide +kernel
theorem dX10_years_138 : decode cX10_years 138 = .ok (.iload 5, 2) := by decide +kernel
theorem dX10_years_140 : decode cX10_years 140 = .ok (.goto 10, 3) := by decide +kernel
theorem dX10_years_143 : decode cX10_years 143 = .ok (.aload_n 0, 1) := by decide +kernel
theorem dX10_years_144 : decode cX10_years 144 = .ok (.getfield 91, 3) := by decide +kernel
theorem dX10_years_147 : decode cX10_years 147 = .ok (.getfield 298, 3) := by decide +kernel
theorem dX10_years_150 : decode cX10_years 150 = .ok (.if_icmp .ne 6, 3) := by decide +kernel
theorem dX10_years_153 : decode cX10_years 153 = .ok (.iinc 7 1, 3) := by decide +kernel
theorem dX10_years_156 : decode cX10_years 156 = .ok (.iinc 8 1, 3) := by decide +kernel
theorem dX10_years_159 : decode cX10_years 159 = .ok (.goto (-70), 3) := by decide +kernel
theorem dX10_years_162 : decode cX10_years 162 = .ok (.iload 7, 2) := by decide +kernel
theorem dX10_years_164 : decode cX10_years 164 = .ok (.ireturn, 1) := by decide +kernel
theorem dX10_count_0 : decode cX10_count 0 = .ok (.iload_n 1, 1) := by decide +kernel
theorem dX10_count_1 : decode cX10_count 1 = .ok (.tableswitch 99 0 6 #[43, 51, 59, 64, 75, 83, 91], 43) := by decide +kernel
theorem dX10_count_44 : decode cX10_count 44 = .ok (.aload_n 0, 1) := by decide +kernel
theorem dX10_count_45 : decode cX10_count 45 = .ok (.getfield 42, 3) := by decide +kernel
theorem dX10_count_48 : decode cX10_count 48 = .ok (.getfield 128, 3) := by decide +kernel
theorem dX10_count_51 : decode cX10_count 51 = .ok (.ireturn, 1) := by decide +kernel
theorem dX10_count_52 : decode cX10_count 52 = .ok (.aload_n 0, 1) := by decide +kernel
theorem dX10_count_53 : decode cX10_count 53 = .ok (.getfield 42, 3) := by decide +kernel
theorem dX10_count_56 : decode cX10_count 56 = .ok (.getfield 262, 3) := by decide +kernel
theorem dX10_count_59 : decode cX10_count 59 = .ok (.ireturn, 1) := by decide +kernel
theorem dX10_count_60 : decode cX10_count 60 = .ok (.aload_n 0, 1) := by decide +kernel
theorem dX10_count_61 : decode cX10_count 61 = .ok (.getfield 59, 3) := by decide +kernel
theorem dX10_count_64 : decode cX10_count 64 = .ok (.ireturn, 1) := by decide +kernel
theorem dX10_count_65 : decode cX10_count 65 = .ok (.aload_n 0, 1) := by decide +kernel
theorem dX10_count_66 : decode cX10_count 66 = .ok (.getfield 42, 3) := by decide +kernel
theorem dX10_count_69 : decode cX10_count 69 = .ok (.getfield 168, 3) := by decide +kernel
theorem dX10_count_72 : decode cX10_count 72 = .ok (.invokestatic 250, 3) := by decide +kernel
theorem dX10_count_75 : decode cX10_count 75 = .ok (.ireturn, 1) := by decide +kernel
theorem dX10_count_76 : decode cX10_count 76 = .ok (.aload_n 0, 1) := by decide +kernel
theorem dX10_count_77 : decode cX10_count 77 = .ok (.getfield 42, 3) := by decide +kernel
theorem dX10_count_80 : decode cX10_count 80 = .ok (.getfield 121, 3) := by decide +kernel
theorem dX10_count_83 : decode cX10_count 83 = .ok (.ireturn, 1) := by decide +kernel
theorem dX10_count_84 : decode cX10_count 84 = .ok (.aload_n 0, 1) := by decide +kernel
theorem dX10_count_85 : decode cX10_count 85 = .ok (.getfield 10, 3) := by decide +kernel
theorem dX10_count_88 : decode cX10_count 88 = .ok (.getfield 100, 3) := by decide +kernel
theorem dX10_count_91 : decode cX10_count 91 = .ok (.ireturn, 1) := by decide +kernel
theorem dX10_count_92 : decode cX10_count 92 = .ok (.aload_n 0, 1) := by decide +kernel
theorem dX10_count_93 : decode cX10_count 93 = .ok (.getfield 42, 3) := by decide +kernel
theorem dX10_count_96 : decode cX10_count 96 = .ok (.invokevirtual 301, 3) := by decide +kernel
theorem dX10_count_99 : decode cX10_count 99 = .ok (.ireturn, 1) := by decide +kernel
theorem dX10_count_100 : decode cX10_count 100 = .ok (.iconst (-1), 1) := by decide +kernel
theorem dX10_count_101 : decode cX10_count 101 = .ok (.ireturn, 1) := by decide +kernel
theorem dX10_image_0 : decode cX10_image 0 = .ok (.iload_n 1, 1) := by decide +kernel
theorem dX10_image_1 : decode cX10_image 1 = .ok (.iconst 4, 1) := by decide +kernel
theorem dX10_image_2 : decode cX10_image 2 = .ok (.invokestatic 175, 3) := by decide +kernel
theorem dX10_image_5 : decode cX10_image 5 = .ok (.ifCond .ne 5, 3) := by decide +kernel
theorem dX10_image_8 : decode cX10_image 8 = .ok (.iconst (-1), 1) := by decide +kernel
theorem dX10_image_9 : decode cX10_image 9 = .ok (.ireturn, 1) := by decide +kernel
theorem dX10_image_10 : decode cX10_image 10 = .ok (.aload_n 0, 1) := by decide +kernel
theorem dX10_image_11 : decode cX10_image 11 = .ok (.getfield 49, 3) := by decide +kernel
theorem dX10_image_14 : decode cX10_image 14 = .ok (.iload_n 1, 1) := by decide +kernel
theorem dX10_image_15 : decode cX10_image 15 = .ok (.aaload, 1) := by decide +kernel
theorem dX10_image_16 : decode cX10_image 16 = .ok (.ifnonnull 13, 3) := by decide +kernel
theorem dX10_image_19 : decode cX10_image 19 = .ok (.new 39, 3) := by decide +kernel
theorem dX10_image_22 : decode cX10_image 22 = .ok (.dup, 1) := by decide +kernel
theorem dX10_image_23 : decode cX10_image 23 = .ok (.invokespecial 41, 3) := by decide +kernel
theorem dX10_image_26 : decode cX10_image 26 = .ok (.goto 9, 3) := by decide +kernel
theorem dX10_image_29 : decode cX10_image 29 = .ok (.aload_n 0, 1) := by decide +kernel
theorem dX10_image_30 : decode cX10_image 30 = .ok (.getfield 49, 3) := by decide +kernel
theorem dX10_image_33 : decode cX10_image 33 = .ok (.iload_n 1, 1) := by decide +kernel
theorem dX10_image_34 : decode cX10_image 34 = .ok (.aaload, 1) := by decide +kernel
theorem dX10_image_35 : decode cX10_image 35 = .ok (.astore_n 2, 1) := by decide +kernel
theorem dX10_image_36 : decode cX10_image 36 = .ok (.aload_n 2, 1) := by decide +kernel
theorem dX10_image_37 : decode cX10_image 37 = .ok (.aload_n 0, 1) := by decide +kernel
theorem dX10_image_38 : decode cX10_image 38 = .ok (.getfield 42, 3) := by decide +kernel
theorem dX10_image_41 : decode cX10_image 41 = .ok (.invokevirtual 124, 3) := by decide +kernel
theorem dX10_image_44 : decode cX10_image 44 = .ok (.aload_n 0, 1) := by decide +kernel
theorem dX10_image_45 : decode cX10_image 45 = .ok (.getfield 49, 3) := by decide +kernel
theorem dX10_image_48 : decode cX10_image 48 = .ok (.iload_n 1, 1) := by decide +kernel
theorem dX10_image_49 : decode cX10_image 49 = .ok (.aload_n 2, 1) := by decide +kernel
theorem dX10_image_50 : decode cX10_image 50 = .ok (.aastore, 1) := by decide +kernel
theorem dX10_image_51 : decode cX10_image 51 = .ok (.aload_n 0, 1) := by decide +kernel
theorem dX10_image_52 : decode cX10_image 52 = .ok (.getfield 42, 3) := by decide +kernel
theorem dX10_image_55 : decode cX10_image 55 = .ok (.getfield 128, 3) := by decide +kernel
theorem dX10_image_58 : decode cX10_image 58 = .ok (.ireturn, 1) := by decide +kernel
theorem dX10_back_0 : decode cX10_back 0 = .ok (.iload_n 1, 1) := by decide +kernel
theorem dX10_back_1 : decode cX10_back 1 = .ok (.iconst 4, 1) := by decide +kernel
theorem dX10_back_2 : decode cX10_back 2 = .ok (.invokestatic 175, 3) := by decide +kernel
theorem dX10_back_5 : decode cX10_back 5 = .ok (.ifCond .eq 12, 3) := by decide +kernel
theorem dX10_back_8 : decode cX10_back 8 = .ok (.aload_n 0, 1) := by decide +kernel
theorem dX10_back_9 : decode cX10_back 9 = .ok (.getfield 49, 3) := by decide +kernel
theorem dX10_back_12 : decode cX10_back 12 = .ok (.iload_n 1, 1) := by decide +kernel
theorem dX10_back_13 : decode cX10_back 13 = .ok (.aaload, 1) := by decide +kernel
theorem dX10_back_14 : decode cX10_back 14 = .ok (.ifnonnull 5, 3) := by decide +kernel
theorem dX10_back_17 : decode cX10_back 17 = .ok (.iconst (-1), 1) := by decide +kernel
theorem dX10_back_18 : decode cX10_back 18 = .ok (.ireturn, 1) := by decide +kernel
theorem dX10_back_19 : decode cX10_back 19 = .ok (.aload_n 0, 1) := by decide +kernel
theorem dX10_back_20 : decode cX10_back 20 = .ok (.getfield 42, 3) := by decide +kernel
theorem dX10_back_23 : decode cX10_back 23 = .ok (.aload_n 0, 1) := by decide +kernel
theorem dX10_back_24 : decode cX10_back 24 = .ok (.getfield 49, 3) := by decide +kernel
theorem dX10_back_27 : decode cX10_back 27 = .ok (.iload_n 1, 1) := by decide +kernel
theorem dX10_back_28 : decode cX10_back 28 = .ok (.aaload, 1) := by decide +kernel
theorem dX10_back_29 : decode cX10_back 29 = .ok (.invokevirtual 124, 3) := by decide +kernel
theorem dX10_back_32 : decode cX10_back 32 = .ok (.aload_n 0, 1) := by decide +kernel
theorem dX10_back_33 : decode cX10_back 33 = .ok (.getfield 42, 3) := by decide +kernel
theorem dX10_back_36 : decode cX10_back 36 = .ok (.getfield 128, 3) := by decide +kernel
theorem dX10_back_39 : decode cX10_back 39 = .ok (.ireturn, 1) := by decide +kernel
theorem dX10_isThere_0 : decode cX10_isThere 0 = .ok (.aload_n 0, 1) := by decide +kernel
theorem dX10_isThere_1 : decode cX10_isThere 1 = .ok (.getfield 42, 3) := by decide +kernel
theorem dX10_isThere_4 : decode cX10_isThere 4 = .ok (.getfield 128, 3) := by decide +kernel
theorem dX10_isThere_7 : decode cX10_isThere 7 = .ok (.ifCond .le 7, 3) := by decide +kernel
theorem dX10_isThere_10 : decode cX10_isThere 10 = .ok (.iconst 1, 1) := by decide +kernel
theorem dX10_isThere_11 : decode cX10_isThere 11 = .ok (.goto 4, 3) := by decide +kernel
theorem dX10_isThere_14 : decode cX10_isThere 14 = .ok (.iconst 0, 1) := by decide +kernel
theorem dX10_isThere_15 : decode cX10_isThere 15 = .ok (.ireturn, 1) := by decide +kernel
theorem dX10_canBlow_0 : decode cX10_canBlow 0 = .ok (.aload_n 0, 1) := by decide +kernel
theorem dX10_canBlow_1 : decode cX10_canBlow 1 = .ok (.invokevirtual 171, 3) := by decide +kernel
theorem dX10_canBlow_4 : decode cX10_canBlow 4 = .ok (.ifCond .eq 36, 3) := by decide +kernel
theorem dX10_canBlow_7 : decode cX10_canBlow 7 = .ok (.iload_n 1, 1) := by decide +kernel
theorem dX10_canBlow_8 : decode cX10_canBlow 8 = .ok (.aload_n 0, 1) := by decide +kernel
theorem dX10_canBlow_9 : decode cX10_canBlow 9 = .ok (.getfield 59, 3) := by decide +kernel
theorem dX10_canBlow_12 : decode cX10_canBlow 12 = .ok (.invokestatic 175, 3) := by decide +kernel
theorem dX10_canBlow_15 : decode cX10_canBlow 15 = .ok (.ifCond .eq 25, 3) := by decide +kernel
theorem dX10_canBlow_18 : decode cX10_canBlow 18 = .ok (.iload_n 2, 1) := by decide +kernel
theorem dX10_canBlow_19 : decode cX10_canBlow 19 = .ok (.bipush 8, 2) := by decide +kernel
theorem dX10_canBlow_21 : decode cX10_canBlow 21 = .ok (.invokestatic 175, 3) := by decide +kernel
theorem dX10_canBlow_24 : decode cX10_canBlow 24 = .ok (.ifCond .eq 16, 3) := by decide +kernel
theorem dX10_canBlow_27 : decode cX10_canBlow 27 = .ok (.iload_n 3, 1) := by decide +kernel
theorem dX10_canBlow_28 : decode cX10_canBlow 28 = .ok (.bipush 25, 2) := by decide +kernel
theorem dX10_canBlow_30 : decode cX10_canBlow 30 = .ok (.invokestatic 175, 3) := by decide +kernel
theorem dX10_canBlow_33 : decode cX10_canBlow 33 = .ok (.ifCond .eq 7, 3) := by decide +kernel
theorem dX10_canBlow_36 : decode cX10_canBlow 36 = .ok (.iconst 1, 1) := by decide +kernel
theorem dX10_canBlow_37 : decode cX10_canBlow 37 = .ok (.goto 4, 3) := by decide +kernel
theorem dX10_canBlow_40 : decode cX10_canBlow 40 = .ok (.iconst 0, 1) := by decide +kernel
theorem dX10_canBlow_41 : decode cX10_canBlow 41 = .ok (.ireturn, 1) := by decide +kernel
theorem dX10_canBuy_0 : decode cX10_canBuy 0 = .ok (.aload_n 0, 1) := by decide +kernel
theorem dX10_canBuy_1 : decode cX10_canBuy 1 = .ok (.invokevirtual 171, 3) := by decide +kernel
theorem dX10_canBuy_4 : decode cX10_canBuy 4 = .ok (.ifCond .eq 24, 3) := by decide +kernel
theorem dX10_canBuy_7 : decode cX10_canBuy 7 = .ok (.iload_n 1, 1) := by decide +kernel
theorem dX10_canBuy_8 : decode cX10_canBuy 8 = .ok (.iconst 4, 1) := by decide +kernel
theorem dX10_canBuy_9 : decode cX10_canBuy 9 = .ok (.invokestatic 175, 3) := by decide +kernel
theorem dX10_canBuy_12 : decode cX10_canBuy 12 = .ok (.ifCond .eq 16, 3) := by decide +kernel
theorem dX10_canBuy_15 : decode cX10_canBuy 15 = .ok (.iload_n 2, 1) := by decide +kernel
theorem dX10_canBuy_16 : decode cX10_canBuy 16 = .ok (.bipush 8, 2) := by decide +kernel
theorem dX10_canBuy_18 : decode cX10_canBuy 18 = .ok (.invokestatic 175, 3) := by decide +kernel
theorem dX10_canBuy_21 : decode cX10_canBuy 21 = .ok (.ifCond .eq 7, 3) := by decide +kernel
theorem dX10_canBuy_24 : decode cX10_canBuy 24 = .ok (.iconst 1, 1) := by decide +kernel
theorem dX10_canBuy_25 : decode cX10_canBuy 25 = .ok (.goto 4, 3) := by decide +kernel
theorem dX10_canBuy_28 : decode cX10_canBuy 28 = .ok (.iconst 0, 1) := by decide +kernel
theorem dX10_canBuy_29 : decode cX10_canBuy 29 = .ok (.ireturn, 1) := by decide +kernel
theorem dX10_voteOf_0 : decode cX10_voteOf 0 = .ok (.aload_n 0, 1) := by decide +kernel
theorem dX10_voteOf_1 : decode cX10_voteOf 1 = .ok (.getfield 73, 3) := by decide +kernel
theorem dX10_voteOf_4 : decode cX10_voteOf 4 = .ok (.aload_n 0, 1) := by decide +kernel
theorem dX10_voteOf_5 : decode cX10_voteOf 5 = .ok (.getfield 42, 3) := by decide +kernel
theorem dX10_voteOf_8 : decode cX10_voteOf 8 = .ok (.aload_n 1, 1) := by decide +kernel
theorem dX10_voteOf_9 : decode cX10_voteOf 9 = .ok (.invokevirtual 305, 3) := by decide +kernel
theorem dX10_voteOf_12 : decode cX10_voteOf 12 = .ok (.aload_n 0, 1) := by decide +kernel
theorem dX10_voteOf_13 : decode cX10_voteOf 13 = .ok (.getfield 73, 3) := by decide +kernel
theorem dX10_voteOf_16 : decode cX10_voteOf 16 = .ok (.iload_n 2, 1) := by decide +kernel
theorem dX10_voteOf_17 : decode cX10_voteOf 17 = .ok (.invokevirtual 308, 3) := by decide +kernel
theorem dX10_voteOf_20 : decode cX10_voteOf 20 = .ok (.ireturn, 1) := by decide +kernel
theorem dX10_voteAfter_0 : decode cX10_voteAfter 0 = .ok (.aload_n 0, 1) := by decide +kernel
theorem dX10_voteAfter_1 : decode cX10_voteAfter 1 = .ok (.getfield 66, 3) := by decide +kernel
theorem dX10_voteAfter_4 : decode cX10_voteAfter 4 = .ok (.aload_n 0, 1) := by decide +kernel
theorem dX10_voteAfter_5 : decode cX10_voteAfter 5 = .ok (.getfield 55, 3) := by decide +kernel
theorem dX10_voteAfter_8 : decode cX10_voteAfter 8 = .ok (.iload_n 1, 1) := by decide +kernel
theorem dX10_voteAfter_9 : decode cX10_voteAfter 9 = .ok (.aaload, 1) := by decide +kernel
theorem dX10_voteAfter_10 : decode cX10_voteAfter 10 = .ok (.aload_n 0, 1) := by decide +kernel
theorem dX10_voteAfter_11 : decode cX10_voteAfter 11 = .ok (.getfield 42, 3) := by decide +kernel
theorem dX10_voteAfter_14 : decode cX10_voteAfter 14 = .ok (.iload_n 2, 1) := by decide +kernel
theorem dX10_voteAfter_15 : decode cX10_voteAfter 15 = .ok (.iload_n 3, 1) := by decide +kernel
theorem dX10_voteAfter_16 : decode cX10_voteAfter 16 = .ok (.iload 5, 2) := by decide +kernel
theorem dX10_voteAfter_18 : decode cX10_voteAfter 18 = .ok (.aload_n 0, 1) := by decide +kernel
theorem dX10_voteAfter_19 : decode cX10_voteAfter 19 = .ok (.getfield 95, 3) := by decide +kernel
theorem dX10_voteAfter_22 : decode cX10_voteAfter 22 = .ok (.invokevirtual 191, 3) := by decide +kernel
theorem dX10_voteAfter_25 : decode cX10_voteAfter 25 = .ok (.aload_n 0, 1) := by decide +kernel
theorem dX10_voteAfter_26 : decode cX10_voteAfter 26 = .ok (.aload_n 0, 1) := by decide +kernel
theorem dX10_voteAfter_27 : decode cX10_voteAfter 27 = .ok (.getfield 95, 3) := by decide +kernel
theorem dX10_voteAfter_30 : decode cX10_voteAfter 30 = .ok (.iload 4, 2) := by decide +kernel
theorem dX10_voteAfter_32 : decode cX10_voteAfter 32 = .ok (.invokevirtual 201, 3) := by decide +kernel
theorem dX10_voteAfter_35 : decode cX10_voteAfter 35 = .ok (.ireturn, 1) := by decide +kernel
theorem dX10_isExplained_0 : decode cX10_isExplained 0 = .ok (.aload_n 0, 1) := by decide +kernel
theorem dX10_isExplained_1 : decode cX10_isExplained 1 = .ok (.getfield 66, 3) := by decide +kernel
theorem dX10_isExplained_4 : decode cX10_isExplained 4 = .ok (.aload_n 0, 1) := by decide +kernel
theorem dX10_isExplained_5 : decode cX10_isExplained 5 = .ok (.getfield 42, 3) := by decide +kernel
theorem dX10_isExplained_8 : decode cX10_isExplained 8 = .ok (.iload_n 3, 1) := by decide +kernel
theorem dX10_isExplained_9 : decode cX10_isExplained 9 = .ok (.iload 4, 2) := by decide +kernel
theorem dX10_isExplained_11 : decode cX10_isExplained 11 = .ok (.aload_n 0, 1) := by decide +kernel
theorem dX10_isExplained_12 : decode cX10_isExplained 12 = .ok (.getfield 42, 3) := by decide +kernel
theorem dX10_isExplained_15 : decode cX10_isExplained 15 = .ok (.getfield 168, 3) := by decide +kernel
theorem dX10_isExplained_18 : decode cX10_isExplained 18 = .ok (.invokevirtual 268, 3) := by decide +kernel
theorem dX10_isExplained_21 : decode cX10_isExplained 21 = .ok (.aload_n 0, 1) := by decide +kernel
theorem dX10_isExplained_22 : decode cX10_isExplained 22 = .ok (.getfield 66, 3) := by decide +kernel
theorem dX10_isExplained_25 : decode cX10_isExplained 25 = .ok (.aload_n 0, 1) := by decide +kernel
theorem dX10_isExplained_26 : decode cX10_isExplained 26 = .ok (.getfield 55, 3) := by decide +kernel
theorem dX10_isExplained_29 : decode cX10_isExplained 29 = .ok (.iload_n 1, 1) := by decide +kernel
theorem dX10_isExplained_30 : decode cX10_isExplained 30 = .ok (.aaload, 1) := by decide +kernel
theorem dX10_isExplained_31 : decode cX10_isExplained 31 = .ok (.aload_n 0, 1) := by decide +kernel
theorem dX10_isExplained_32 : decode cX10_isExplained 32 = .ok (.getfield 42, 3) := by decide +kernel
theorem dX10_isExplained_35 : decode cX10_isExplained 35 = .ok (.getfield 156, 3) := by decide +kernel
theorem dX10_isExplained_38 : decode cX10_isExplained 38 = .ok (.iload_n 3, 1) := by decide +kernel
theorem dX10_isExplained_39 : decode cX10_isExplained 39 = .ok (.iaload, 1) := by decide +kernel
theorem dX10_isExplained_40 : decode cX10_isExplained 40 = .ok (.iload_n 2, 1) := by decide +kernel
theorem dX10_isExplained_41 : decode cX10_isExplained 41 = .ok (.invokevirtual 277, 3) := by decide +kernel
theorem dX10_isExplained_44 : decode cX10_isExplained 44 = .ok (.aload_n 0, 1) := by decide +kernel
theorem dX10_isExplained_45 : decode cX10_isExplained 45 = .ok (.getfield 42, 3) := by decide +kernel
theorem dX10_isExplained_48 : decode cX10_isExplained 48 = .ok (.getfield 153, 3) := by decide +kernel
theorem dX10_isExplained_51 : decode cX10_isExplained 51 = .ok (.iload_n 3, 1) := by decide +kernel
theorem dX10_isExplained_52 : decode cX10_isExplained 52 = .ok (.iaload, 1) := by decide +kernel
theorem dX10_isExplained_53 : decode cX10_isExplained 53 = .ok (.if_icmp .ne 7, 3) := by decide +kernel
theorem dX10_isExplained_56 : decode cX10_isExplained 56 = .ok (.iconst 1, 1) := by decide +kernel
theorem dX10_isExplained_57 : decode cX10_isExplained 57 = .ok (.goto 4, 3) := by decide +kernel
theorem dX10_isExplained_60 : decode cX10_isExplained 60 = .ok (.iconst 0, 1) := by decide +kernel
theorem dX10_isExplained_61 : decode cX10_isExplained 61 = .ok (.ireturn, 1) := by decide +kernel
theorem dX10_unexplainedBy_0 : decode cX10_unexplainedBy 0 = .ok (.iconst 0, 1) := by decide +kernel
theorem dX10_unexplainedBy_1 : decode cX10_unexplainedBy 1 = .ok (.istore 4, 2) := by decide +kernel
theorem dX10_unexplainedBy_3 : decode cX10_unexplainedBy 3 = .ok (.iconst 0, 1) := by decide +kernel
theorem dX10_unexplainedBy_4 : decode cX10_unexplainedBy 4 = .ok (.istore 5, 2) := by decide +kernel
theorem dX10_unexplainedBy_6 : decode cX10_unexplainedBy 6 = .ok (.iload 5, 2) := by decide +kernel
theorem dX10_unexplainedBy_8 : decode cX10_unexplainedBy 8 = .ok (.aload_n 0, 1) := by decide +kernel
theorem dX10_unexplainedBy_9 : decode cX10_unexplainedBy 9 = .ok (.getfield 42, 3) := by decide +kernel
theorem dX10_unexplainedBy_12 : decode cX10_unexplainedBy 12 = .ok (.getfield 128, 3) := by decide +kernel
theorem dX10_unexplainedBy_15 : decode cX10_unexplainedBy 15 = .ok (.if_icmp .ge 37, 3) := by decide +kernel
theorem dX10_unexplainedBy_18 : decode cX10_unexplainedBy 18 = .ok (.iload 5, 2) := by decide +kernel
theorem dX10_unexplainedBy_20 : decode cX10_unexplainedBy 20 = .ok (.bipush 12, 2) := by decide +kernel
theorem dX10_unexplainedBy_22 : decode cX10_unexplainedBy 22 = .ok (.if_icmp .ge 30, 3) := by decide +kernel
theorem dX10_unexplainedBy_25 : decode cX10_unexplainedBy 25 = .ok (.aload_n 0, 1) := by decide +kernel
theorem dX10_unexplainedBy_26 : decode cX10_unexplainedBy 26 = .ok (.iload_n 1, 1) := by decide +kernel
theorem dX10_unexplainedBy_27 : decode cX10_unexplainedBy 27 = .ok (.iload_n 2, 1) := by decide +kernel
theorem dX10_unexplainedBy_28 : decode cX10_unexplainedBy 28 = .ok (.iload 5, 2) := by decide +kernel
theorem dX10_unexplainedBy_30 : decode cX10_unexplainedBy 30 = .ok (.iload_n 3, 1) := by decide +kernel
theorem dX10_unexplainedBy_31 : decode cX10_unexplainedBy 31 = .ok (.invokevirtual 243, 3) := by decide +kernel
theorem dX10_unexplainedBy_34 : decode cX10_unexplainedBy 34 = .ok (.ifCond .ne 12, 3) := by decide +kernel
theorem dX10_unexplainedBy_37 : decode cX10_unexplainedBy 37 = .ok (.iload 4, 2) := by decide +kernel
theorem dX10_unexplainedBy_39 : decode cX10_unexplainedBy 39 = .ok (.iconst 1, 1) := by decide +kernel
theorem dX10_unexplainedBy_40 : decode cX10_unexplainedBy 40 = .ok (.iload 5, 2) := by decide +kernel
theorem dX10_unexplainedBy_42 : decode cX10_unexplainedBy 42 = .ok (.ishl, 1) := by decide +kernel
theorem dX10_unexplainedBy_43 : decode cX10_unexplainedBy 43 = .ok (.ior, 1) := by decide +kernel
theorem dX10_unexplainedBy_44 : decode cX10_unexplainedBy 44 = .ok (.istore 4, 2) := by decide +kernel
theorem dX10_unexplainedBy_46 : decode cX10_unexplainedBy 46 = .ok (.iinc 5 1, 3) := by decide +kernel
theorem dX10_unexplainedBy_49 : decode cX10_unexplainedBy 49 = .ok (.goto (-43), 3) := by decide +kernel
theorem dX10_unexplainedBy_52 : decode cX10_unexplainedBy 52 = .ok (.iload 4, 2) := by decide +kernel
theorem dX10_unexplainedBy_54 : decode cX10_unexplainedBy 54 = .ok (.ireturn, 1) := by decide +kernel
theorem dX10_isBelow_0 : decode cX10_isBelow 0 = .ok (.iload_n 0, 1) := by decide +kernel
theorem dX10_isBelow_1 : decode cX10_isBelow 1 = .ok (.ifCond .lt 12, 3) := by decide +kernel
theorem dX10_isBelow_4 : decode cX10_isBelow 4 = .ok (.iload_n 0, 1) := by decide +kernel
theorem dX10_isBelow_5 : decode cX10_isBelow 5 = .ok (.iload_n 1, 1) := by decide +kernel
theorem dX10_isBelow_6 : decode cX10_isBelow 6 = .ok (.if_icmp .ge 7, 3) := by decide +kernel
theorem dX10_isBelow_9 : decode cX10_isBelow 9 = .ok (.iconst 1, 1) := by decide +kernel
theorem dX10_isBelow_10 : decode cX10_isBelow 10 = .ok (.goto 4, 3) := by decide +kernel
theorem dX10_isBelow_13 : decode cX10_isBelow 13 = .ok (.iconst 0, 1) := by decide +kernel
theorem dX10_isBelow_14 : decode cX10_isBelow 14 = .ok (.ireturn, 1) := by decide +kernel
theorem dX10_offBetween_0 : decode cX10_offBetween 0 = .ok (.iload_n 0, 1) := by decide +kernel
theorem dX10_offBetween_1 : decode cX10_offBetween 1 = .ok (.iload_n 1, 1) := by decide +kernel
theorem dX10_offBetween_2 : decode cX10_offBetween 2 = .ok (.isub, 1) := by decide +kernel
theorem dX10_offBetween_3 : decode cX10_offBetween 3 = .ok (.bipush 7, 2) := by decide +kernel
theorem dX10_offBetween_5 : decode cX10_offBetween 5 = .ok (.iand, 1) := by decide +kernel
theorem dX10_offBetween_6 : decode cX10_offBetween 6 = .ok (.istore_n 2, 1) := by decide +kernel
theorem dX10_offBetween_7 : decode cX10_offBetween 7 = .ok (.iload_n 2, 1) := by decide +kernel
theorem dX10_offBetween_8 : decode cX10_offBetween 8 = .ok (.bipush 8, 2) := by decide +kernel
theorem dX10_offBetween_10 : decode cX10_offBetween 10 = .ok (.iload_n 2, 1) := by decide +kernel
theorem dX10_offBetween_11 : decode cX10_offBetween 11 = .ok (.isub, 1) := by decide +kernel
theorem dX10_offBetween_12 : decode cX10_offBetween 12 = .ok (.invokestatic 311, 3) := by decide +kernel
theorem dX10_offBetween_15 : decode cX10_offBetween 15 = .ok (.ireturn, 1) := by decide +kernel
theorem dX10_bendingCost_0 : decode cX10_bendingCost 0 = .ok (.iload_n 0, 1) := by decide +kernel
theorem dX10_bendingCost_1 : decode cX10_bendingCost 1 = .ok (.iconst 1, 1) := by decide +kernel
theorem dX10_bendingCost_2 : decode cX10_bendingCost 2 = .ok (.iadd, 1) := by decide +kernel
theorem dX10_bendingCost_3 : decode cX10_bendingCost 3 = .ok (.iload_n 1, 1) := by decide +kernel
theorem dX10_bendingCost_4 : decode cX10_bendingCost 4 = .ok (.iload_n 2, 1) := by decide +kernel
theorem dX10_bendingCost_5 : decode cX10_bendingCost 5 = .ok (.invokestatic 259, 3) := by decide +kernel
theorem dX10_bendingCost_8 : decode cX10_bendingCost 8 = .ok (.imul, 1) := by decide +kernel
theorem dX10_bendingCost_9 : decode cX10_bendingCost 9 = .ok (.ireturn, 1) := by decide +kernel
theorem dX10_nextDrawn_0 : decode cX10_nextDrawn 0 = .ok (.iload_n 0, 1) := by decide +kernel
theorem dX10_nextDrawn_1 : decode cX10_nextDrawn 1 = .ok (.i2l, 1) := by decide +kernel
theorem dX10_nextDrawn_2 : decode cX10_nextDrawn 2 = .ok (.ldc2_w 316, 3) := by decide +kernel
theorem dX10_nextDrawn_5 : decode cX10_nextDrawn 5 = .ok (.lmul, 1) := by decide +kernel
theorem dX10_nextDrawn_6 : decode cX10_nextDrawn 6 = .ok (.ldc2_w 318, 3) := by decide +kernel
theorem dX10_nextDrawn_9 : decode cX10_nextDrawn 9 = .ok (.ladd, 1) := by decide +kernel
theorem dX10_nextDrawn_10 : decode cX10_nextDrawn 10 = .ok (.ldc2_w 320, 3) := by decide +kernel
theorem dX10_nextDrawn_13 : decode cX10_nextDrawn 13 = .ok (.land, 1) := by decide +kernel
theorem dX10_nextDrawn_14 : decode cX10_nextDrawn 14 = .ok (.l2i, 1) := by decide +kernel
theorem dX10_nextDrawn_15 : decode cX10_nextDrawn 15 = .ok (.ireturn, 1) := by decide +kernel
theorem dX11_init_0 : decode cX11_init 0 = .ok (.aload_n 0, 1) := by decide +kernel
theorem dX11_init_1 : decode cX11_init 1 = .ok (.invokespecial 1, 3) := by decide +kernel
theorem dX11_init_4 : decode cX11_init 4 = .ok (.aload_n 0, 1) := by decide +kernel
theorem dX11_init_5 : decode cX11_init 5 = .ok (.sipush 400, 3) := by decide +kernel
theorem dX11_init_8 : decode cX11_init 8 = .ok (.newarray .byte, 2) := by decide +kernel
theorem dX11_init_10 : decode cX11_init 10 = .ok (.putfield 7, 3) := by decide +kernel
theorem dX11_init_13 : decode cX11_init 13 = .ok (.aload_n 0, 1) := by decide +kernel
theorem dX11_init_14 : decode cX11_init 14 = .ok (.sipush 2400, 3) := by decide +kernel
theorem dX11_init_17 : decode cX11_init 17 = .ok (.newarray .int, 2) := by decide +kernel
theorem dX11_init_19 : decode cX11_init 19 = .ok (.putfield 13, 3) := by decide +kernel
theorem dX11_init_22 : decode cX11_init 22 = .ok (.aload_n 0, 1) := by decide +kernel
theorem dX11_init_23 : decode cX11_init 23 = .ok (.bipush 7, 2) := by decide +kernel
theorem dX11_init_25 : decode cX11_init 25 = .ok (.newarray .int, 2) := by decide +kernel
theorem dX11_init_27 : decode cX11_init 27 = .ok (.putfield 17, 3) := by decide +kernel
theorem dX11_init_30 : decode cX11_init 30 = .ok (.aload_n 0, 1) := by decide +kernel
theorem dX11_init_31 : decode cX11_init 31 = .ok (.sipush 288, 3) := by decide +kernel
theorem dX11_init_34 : decode cX11_init 34 = .ok (.newarray .int, 2) := by decide +kernel
theorem dX11_init_36 : decode cX11_init 36 = .ok (.putfield 20, 3) := by decide +kernel
theorem dX11_init_39 : decode cX11_init 39 = .ok (.aload_n 0, 1) := by decide +kernel
theorem dX11_init_40 : decode cX11_init 40 = .ok (.bipush 6, 2) := by decide +kernel
theorem dX11_init_42 : decode cX11_init 42 = .ok (.newarray .int, 2) := by decide +kernel
theorem dX11_init_44 : decode cX11_init 44 = .ok (.putfield 23, 3) := by decide +kernel
theorem dX11_init_47 : decode cX11_init 47 = .ok (.aload_n 0, 1) := by decide +kernel
theorem dX11_init_48 : decode cX11_init 48 = .ok (.bipush 72, 2) := by decide +kernel
theorem dX11_init_50 : decode cX11_init 50 = .ok (.newarray .int, 2) := by decide +kernel
theorem dX11_init_52 : decode cX11_init 52 = .ok (.putfield 26, 3) := by decide +kernel
theorem dX11_init_55 : decode cX11_init 55 = .ok (.aload_n 0, 1) := by decide +kernel
theorem dX11_init_56 : decode cX11_init 56 = .ok (.bipush 24, 2) := by decide +kernel
theorem dX11_init_58 : decode cX11_init 58 = .ok (.newarray .int, 2) := by decide +kernel
theorem dX11_init_60 : decode cX11_init 60 = .ok (.putfield 29, 3) := by decide +kernel
theorem dX11_init_63 : decode cX11_init 63 = .ok (.aload_n 0, 1) := by decide +kernel
theorem dX11_init_64 : decode cX11_init 64 = .ok (.bipush 32, 2) := by decide +kernel
theorem dX11_init_66 : decode cX11_init 66 = .ok (.newarray .int, 2) := by decide +kernel
theorem dX11_init_68 : decode cX11_init 68 = .ok (.putfield 32, 3) := by decide +kernel
theorem dX11_init_71 : decode cX11_init 71 = .ok (.aload_n 0, 1) := by decide +kernel
theorem dX11_init_72 : decode cX11_init 72 = .ok (.sipush 400, 3) := by decide +kernel
theorem dX11_init_75 : decode cX11_init 75 = .ok (.newarray .int, 2) := by decide +kernel
theorem dX11_init_77 : decode cX11_init 77 = .ok (.putfield 35, 3) := by decide +kernel
theorem dX11_init_80 : decode cX11_init 80 = .ok (.aload_n 0, 1) := by decide +kernel
theorem dX11_init_81 : decode cX11_init 81 = .ok (.bipush 64, 2) := by decide +kernel
theorem dX11_init_83 : decode cX11_init 83 = .ok (.newarray .long, 2) := by decide +kernel
theorem dX11_init_85 : decode cX11_init 85 = .ok (.putfield 38, 3) := by decide +kernel
theorem dX11_init_88 : decode cX11_init 88 = .ok (.aload_n 0, 1) := by decide +kernel
theorem dX11_init_89 : decode cX11_init 89 = .ok (.bipush 9, 2) := by decide +kernel
theorem dX11_init_91 : decode cX11_init 91 = .ok (.newarray .long, 2) := by decide +kernel
theorem dX11_init_93 : decode cX11_init 93 = .ok (.putfield 42, 3) := by decide +kernel
theorem dX11_init_96 : decode cX11_init 96 = .ok (.aload_n 0, 1) := by decide +kernel
theorem dX11_init_97 : decode cX11_init 97 = .ok (.sipush 156, 3) := by decide +kernel
theorem dX11_init_100 : decode cX11_init 100 = .ok (.newarray .int, 2) := by decide +kernel
theorem dX11_init_102 : decode cX11_init 102 = .ok (.putfield 45, 3) := by decide +kernel
theorem dX11_init_105 : decode cX11_init 105 = .ok (.aload_n 0, 1) := by decide +kernel
theorem dX11_init_106 : decode cX11_init 106 = .ok (.bipush 12, 2) := by decide +kernel
theorem dX11_init_108 : decode cX11_init 108 = .ok (.newarray .int, 2) := by decide +kernel
theorem dX11_init_110 : decode cX11_init 110 = .ok (.putfield 48, 3) := by decide +kernel
theorem dX11_init_113 : decode cX11_init 113 = .ok (.aload_n 0, 1) := by decide +kernel
theorem dX11_init_114 : decode cX11_init 114 = .ok (.bipush 8, 2) := by decide +kernel
theorem dX11_init_116 : decode cX11_init 116 = .ok (.newarray .int, 2) := by decide +kernel
theorem dX11_init_118 : decode cX11_init 118 = .ok (.putfield 51, 3) := by decide +kernel
theorem dX11_init_121 : decode cX11_init 121 = .ok (.aload_n 0, 1) := by decide +kernel
theorem dX11_init_122 : decode cX11_init 122 = .ok (.bipush 12, 2) := by decide +kernel
theorem dX11_init_124 : decode cX11_init 124 = .ok (.newarray .int, 2) := by decide +kernel
theorem dX11_init_126 : decode cX11_init 126 = .ok (.putfield 54, 3) := by decide +kernel
theorem dX11_init_129 : decode cX11_init 129 = .ok (.aload_n 0, 1) := by decide +kernel
theorem dX11_init_130 : decode cX11_init 130 = .ok (.bipush 12, 2) := by decide +kernel
theorem dX11_init_132 : decode cX11_init 132 = .ok (.newarray .int, 2) := by decide +kernel
theorem dX11_init_134 : decode cX11_init 134 = .ok (.putfield 57, 3) := by decide +kernel
theorem dX11_init_137 : decode cX11_init 137 = .ok (.aload_n 0, 1) := by decide +kernel
theorem dX11_init_138 : decode cX11_init 138 = .ok (.bipush 12, 2) := by decide +kernel
theorem dX11_init_140 : decode cX11_init 140 = .ok (.newarray .int, 2) := by decide +kernel
theorem dX11_init_142 : decode cX11_init 142 = .ok (.putfield 60, 3) := by decide +kernel
theorem dX11_init_145 : decode cX11_init 145 = .ok (.aload_n 0, 1) := by decide +kernel
theorem dX11_init_146 : decode cX11_init 146 = .ok (.sipush 624, 3) := by decide +kernel
theorem dX11_init_149 : decode cX11_init 149 = .ok (.newarray .int, 2) := by decide +kernel
theorem dX11_init_151 : decode cX11_init 151 = .ok (.putfield 63, 3) := by decide +kernel
theorem dX11_init_154 : decode cX11_init 154 = .ok (.aload_n 0, 1) := by decide +kernel
theorem dX11_init_155 : decode cX11_init 155 = .ok (.iconst 4, 1) := by decide +kernel
theorem dX11_init_156 : decode cX11_init 156 = .ok (.newarray .boolean, 2) := by decide +kernel
theorem dX11_init_158 : decode cX11_init 158 = .ok (.putfield 66, 3) := by decide +kernel
theorem dX11_init_161 : decode cX11_init 161 = .ok (.return_, 1) := by decide +kernel
theorem dX11_in_0 : decode cX11_in 0 = .ok (.lload_n 0, 1) := by decide +kernel
theorem dX11_in_1 : decode cX11_in 1 = .ok (.lload_n 2, 1) := by decide +kernel
theorem dX11_in_2 : decode cX11_in 2 = .ok (.lcmp, 1) := by decide +kernel
theorem dX11_in_3 : decode cX11_in 3 = .ok (.ifCond .lt 14, 3) := by decide +kernel
theorem dX11_in_6 : decode cX11_in 6 = .ok (.lload_n 0, 1) := by decide +kernel
theorem dX11_in_7 : decode cX11_in 7 = .ok (.lload 4, 2) := by decide +kernel
theorem dX11_in_9 : decode cX11_in 9 = .ok (.lcmp, 1) := by decide +kernel
theorem dX11_in_10 : decode cX11_in 10 = .ok (.ifCond .gt 7, 3) := by decide +kernel
theorem dX11_in_13 : decode cX11_in 13 = .ok (.iconst 1, 1) := by decide +kernel
theorem dX11_in_14 : decode cX11_in 14 = .ok (.goto 4, 3) := by decide +kernel
theorem dX11_in_17 : decode cX11_in 17 = .ok (.iconst 0, 1) := by decide +kernel
theorem dX11_in_18 : decode cX11_in 18 = .ok (.ireturn, 1) := by decide +kernel
theorem dX11_isOf_0 : decode cX11_isOf 0 = .ok (.iload_n 0, 1) := by decide +kernel
theorem dX11_isOf_1 : decode cX11_isOf 1 = .ok (.iload_n 1, 1) := by decide +kernel
theorem dX11_isOf_2 : decode cX11_isOf 2 = .ok (.ishr, 1) := by decide +kernel
theorem dX11_isOf_3 : decode cX11_isOf 3 = .ok (.iconst 1, 1) := by decide +kernel
theorem dX11_isOf_4 : decode cX11_isOf 4 = .ok (.iand, 1) := by decide +kernel
theorem dX11_isOf_5 : decode cX11_isOf 5 = .ok (.iconst 1, 1) := by decide +kernel
theorem dX11_isOf_6 : decode cX11_isOf 6 = .ok (.if_icmp .ne 7, 3) := by decide +kernel
theorem dX11_isOf_9 : decode cX11_isOf 9 = .ok (.iconst 1, 1) := by decide +kernel
theorem dX11_isOf_10 : decode cX11_isOf 10 = .ok (.goto 4, 3) := by decide +kernel
theorem dX11_isOf_13 : decode cX11_isOf 13 = .ok (.iconst 0, 1) := by decide +kernel
theorem dX11_isOf_14 : decode cX11_isOf 14 = .ok (.ireturn, 1) := by decide +kernel
theorem dX11_bits_0 : decode cX11_bits 0 = .ok (.iconst 0, 1) := by decide +kernel
theorem dX11_bits_1 : decode cX11_bits 1 = .ok (.istore_n 1, 1) := by decide +kernel
theorem dX11_bits_2 : decode cX11_bits 2 = .ok (.iload_n 0, 1) := by decide +kernel
theorem dX11_bits_3 : decode cX11_bits 3 = .ok (.istore_n 2, 1) := by decide +kernel
theorem dX11_bits_4 : decode cX11_bits 4 = .ok (.iload_n 2, 1) := by decide +kernel
theorem dX11_bits_5 : decode cX11_bits 5 = .ok (.ifCond .eq 15, 3) := by decide +kernel
theorem dX11_bits_8 : decode cX11_bits 8 = .ok (.iinc 1 1, 3) := by decide +kernel
theorem dX11_bits_11 : decode cX11_bits 11 = .ok (.iload_n 2, 1) := by decide +kernel
theorem dX11_bits_12 : decode cX11_bits 12 = .ok (.iload_n 2, 1) := by decide +kernel
theorem dX11_bits_13 : decode cX11_bits 13 = .ok (.iconst 1, 1) := by decide +kernel
theorem dX11_bits_14 : decode cX11_bits 14 = .ok (.isub, 1) := by decide +kernel
theorem dX11_bits_15 : decode cX11_bits 15 = .ok (.iand, 1) := by decide +kernel
theorem dX11_bits_16 : decode cX11_bits 16 = .ok (.istore_n 2, 1) := by decide +kernel
theorem dX11_bits_17 : decode cX11_bits 17 = .ok (.goto (-13), 3) := by decide +kernel
theorem dX11_bits_20 : decode cX11_bits 20 = .ok (.iload_n 1, 1) := by decide +kernel
theorem dX11_bits_21 : decode cX11_bits 21 = .ok (.ireturn, 1) := by decide +kernel
theorem dX11_off_0 : decode cX11_off 0 = .ok (.iload_n 1, 1) := by decide +kernel
theorem dX11_off_1 : decode cX11_off 1 = .ok (.iload_n 0, 1) := by decide +kernel
theorem dX11_off_2 : decode cX11_off 2 = .ok (.isub, 1) := by decide +kernel
theorem dX11_off_3 : decode cX11_off 3 = .ok (.bipush 7, 2) := by decide +kernel
theorem dX11_off_5 : decode cX11_off 5 = .ok (.iand, 1) := by decide +kernel
theorem dX11_off_6 : decode cX11_off 6 = .ok (.istore_n 2, 1) := by decide +kernel
theorem dX11_off_7 : decode cX11_off 7 = .ok (.iload_n 2, 1) := by decide +kernel
theorem dX11_off_8 : decode cX11_off 8 = .ok (.iconst 4, 1) := by decide +kernel
theorem dX11_off_9 : decode cX11_off 9 = .ok (.if_icmp .le 10, 3) := by decide +kernel
theorem dX11_off_12 : decode cX11_off 12 = .ok (.bipush 8, 2) := by decide +kernel
theorem dX11_off_14 : decode cX11_off 14 = .ok (.iload_n 2, 1) := by decide +kernel
theorem dX11_off_15 : decode cX11_off 15 = .ok (.isub, 1) := by decide +kernel
theorem dX11_off_16 : decode cX11_off 16 = .ok (.goto 4, 3) := by decide +kernel
theorem dX11_off_19 : decode cX11_off 19 = .ok (.iload_n 2, 1) := by decide +kernel
theorem dX11_off_20 : decode cX11_off 20 = .ok (.ireturn, 1) := by decide +kernel
theorem dX11_across_0 : decode cX11_across 0 = .ok (.iload_n 0, 1) := by decide +kernel
theorem dX11_across_1 : decode cX11_across 1 = .ok (.ifCond .eq 8, 3) := by decide +kernel
theorem dX11_across_4 : decode cX11_across 4 = .ok (.iload_n 0, 1) := by decide +kernel
theorem dX11_across_5 : decode cX11_across 5 = .ok (.iconst 4, 1) := by decide +kernel
theorem dX11_across_6 : decode cX11_across 6 = .ok (.if_icmp .ne 7, 3) := by decide +kernel
theorem dX11_across_9 : decode cX11_across 9 = .ok (.iconst 0, 1) := by decide +kernel
theorem dX11_across_10 : decode cX11_across 10 = .ok (.goto 13, 3) := by decide +kernel
theorem dX11_across_13 : decode cX11_across 13 = .ok (.iload_n 0, 1) := by decide +kernel
theorem dX11_across_14 : decode cX11_across 14 = .ok (.iconst 4, 1) := by decide +kernel
theorem dX11_across_15 : decode cX11_across 15 = .ok (.if_icmp .ge 7, 3) := by decide +kernel
theorem dX11_across_18 : decode cX11_across 18 = .ok (.iconst 1, 1) := by decide +kernel
theorem dX11_across_19 : decode cX11_across 19 = .ok (.goto 4, 3) := by decide +kernel
theorem dX11_across_22 : decode cX11_across 22 = .ok (.iconst (-1), 1) := by decide +kernel
theorem dX11_across_23 : decode cX11_across 23 = .ok (.ireturn, 1) := by decide +kernel
theorem dX11_down_0 : decode cX11_down 0 = .ok (.iload_n 0, 1) := by decide +kernel
theorem dX11_down_1 : decode cX11_down 1 = .ok (.iconst 2, 1) := by decide +kernel
theorem dX11_down_2 : decode cX11_down 2 = .ok (.if_icmp .eq 9, 3) := by decide +kernel
theorem dX11_down_5 : decode cX11_down 5 = .ok (.iload_n 0, 1) := by decide +kernel
theorem dX11_down_6 : decode cX11_down 6 = .ok (.bipush 6, 2) := by decide +kernel
theorem dX11_down_8 : decode cX11_down 8 = .ok (.if_icmp .ne 7, 3) := by decide +kernel
theorem dX11_down_11 : decode cX11_down 11 = .ok (.iconst 0, 1) := by decide +kernel
theorem dX11_down_12 : decode cX11_down 12 = .ok (.goto 19, 3) := by decide +kernel
theorem dX11_down_15 : decode cX11_down 15 = .ok (.iload_n 0, 1) := by decide +kernel
theorem dX11_down_16 : decode cX11_down 16 = .ok (.iconst 2, 1) := by decide +kernel
theorem dX11_down_17 : decode cX11_down 17 = .ok (.if_icmp .le 13, 3) := by decide +kernel
theorem dX11_down_20 : decode cX11_down 20 = .ok (.iload_n 0, 1) := by decide +kernel
theorem dX11_down_21 : decode cX11_down 21 = .ok (.bipush 6, 2) := by decide +kernel
theorem dX11_down_23 : decode cX11_down 23 = .ok (.if_icmp .ge 7, 3) := by decide +kernel
theorem dX11_down_26 : decode cX11_down 26 = .ok (.iconst 1, 1) := by decide +kernel
theorem dX11_down_27 : decode cX11_down 27 = .ok (.goto 4, 3) := by decide +kernel
theorem dX11_down_30 : decode cX11_down 30 = .ok (.iconst (-1), 1) := by decide +kernel
theorem dX11_down_31 : decode cX11_down 31 = .ok (.ireturn, 1) := by decide +kernel
theorem dX11_four_0 : decode cX11_four 0 = .ok (.bipush 24, 2) := by decide +kernel
theorem dX11_four_2 : decode cX11_four 2 = .ok (.istore_n 2, 1) := by decide +kernel
theorem dX11_four_3 : decode cX11_four 3 = .ok (.iload_n 2, 1) := by decide +kernel
theorem dX11_four_4 : decode cX11_four 4 = .ok (.ifCond .lt 32, 3) := by decide +kernel
theorem dX11_four_7 : decode cX11_four 7 = .ok (.aload_n 0, 1) := by decide +kernel
theorem dX11_four_8 : decode cX11_four 8 = .ok (.getfield 7, 3) := by decide +kernel
theorem dX11_four_11 : decode cX11_four 11 = .ok (.aload_n 0, 1) := by decide +kernel
theorem dX11_four_12 : decode cX11_four 12 = .ok (.getfield 70, 3) := by decide +kernel
theorem dX11_four_15 : decode cX11_four 15 = .ok (.iload_n 1, 1) := by decide +kernel
theorem dX11_four_16 : decode cX11_four 16 = .ok (.iload_n 2, 1) := by decide +kernel
theorem dX11_four_17 : decode cX11_four 17 = .ok (.ishr, 1) := by decide +kernel
theorem dX11_four_18 : decode cX11_four 18 = .ok (.i2b, 1) := by decide +kernel
theorem dX11_four_19 : decode cX11_four 19 = .ok (.bastore, 1) := by decide +kernel
theorem dX11_four_20 : decode cX11_four 20 = .ok (.aload_n 0, 1) := by decide +kernel
theorem dX11_four_21 : decode cX11_four 21 = .ok (.dup, 1) := by decide +kernel
theorem dX11_four_22 : decode cX11_four 22 = .ok (.getfield 70, 3) := by decide +kernel
theorem dX11_four_25 : decode cX11_four 25 = .ok (.iconst 1, 1) := by decide +kernel
theorem dX11_four_26 : decode cX11_four 26 = .ok (.iadd, 1) := by decide +kernel
theorem dX11_four_27 : decode cX11_four 27 = .ok (.putfield 70, 3) := by decide +kernel
theorem dX11_four_30 : decode cX11_four 30 = .ok (.iinc 2 (-8), 3) := by decide +kernel
theorem dX11_four_33 : decode cX11_four 33 = .ok (.goto (-30), 3) := by decide +kernel
theorem dX11_four_36 : decode cX11_four 36 = .ok (.return_, 1) := by decide +kernel
theorem dX11_feed_0 : decode cX11_feed 0 = .ok (.aload_n 0, 1) := by decide +kernel
theorem dX11_feed_1 : decode cX11_feed 1 = .ok (.getfield 70, 3) := by decide +kernel
theorem dX11_feed_4 : decode cX11_feed 4 = .ok (.bipush 20, 2) := by decide +kernel
theorem dX11_feed_6 : decode cX11_feed 6 = .ok (.iadd, 1) := by decide +kernel
theorem dX11_feed_7 : decode cX11_feed 7 = .ok (.sipush 400, 3) := by decide +kernel
theorem dX11_feed_10 : decode cX11_feed 10 = .ok (.if_icmp .le 5, 3) := by decide +kernel
theorem dX11_feed_13 : decode cX11_feed 13 = .ok (.iconst (-1), 1) := by decide +kernel
theorem dX11_feed_14 : decode cX11_feed 14 = .ok (.ireturn, 1) := by decide +kernel
theorem dX11_feed_15 : decode cX11_feed 15 = .ok (.aload_n 0, 1) := by decide +kernel
theorem dX11_feed_16 : decode cX11_feed 16 = .ok (.iload_n 1, 1) := by decide +kernel
theorem dX11_feed_17 : decode cX11_feed 17 = .ok (.invokevirtual 74, 3) := by decide +kernel
theorem dX11_feed_20 : decode cX11_feed 20 = .ok (.aload_n 0, 1) := by decide +kernel
theorem dX11_feed_21 : decode cX11_feed 21 = .ok (.iload_n 2, 1) := by decide +kernel
theorem dX11_feed_22 : decode cX11_feed 22 = .ok (.invokevirtual 74, 3) := by decide +kernel
theorem dX11_feed_25 : decode cX11_feed 25 = .ok (.aload_n 0, 1) := by decide +kernel
theorem dX11_feed_26 : decode cX11_feed 26 = .ok (.iload_n 3, 1) := by decide +kernel
theorem dX11_feed_27 : decode cX11_feed 27 = .ok (.invokevirtual 74, 3) := by decide +kernel
theorem dX11_feed_30 : decode cX11_feed 30 = .ok (.aload_n 0, 1) := by decide +kernel
theorem dX11_feed_31 : decode cX11_feed 31 = .ok (.iload 4, 2) := by decide +kernel
theorem dX11_feed_33 : decode cX11_feed 33 = .ok (.invokevirtual 74, 3) := by decide +kernel
theorem dX11_feed_36 : decode cX11_feed 36 = .ok (.aload_n 0, 1) := by decide +kernel
theorem dX11_feed_37 : decode cX11_feed 37 = .ok (.iload 5, 2) := by decide +kernel
theorem dX11_feed_39 : decode cX11_feed 39 = .ok (.invokevirtual 74, 3) := by decide +kernel
theorem dX11_feed_42 : decode cX11_feed 42 = .ok (.aload_n 0, 1) := by decide +kernel
theorem dX11_feed_43 : decode cX11_feed 43 = .ok (.getfield 70, 3) := by decide +kernel
theorem dX11_feed_46 : decode cX11_feed 46 = .ok (.ireturn, 1) := by decide +kernel
theorem dX11_end_0 : decode cX11_end 0 = .ok (.iload_n 1, 1) := by decide +kernel
theorem dX11_end_1 : decode cX11_end 1 = .ok (.ifCond .lt 11, 3) := by decide +kernel
theorem dX11_end_4 : decode cX11_end 4 = .ok (.iload_n 1, 1) := by decide +kernel
theorem dX11_end_5 : decode cX11_end 5 = .ok (.aload_n 0, 1) := by decide +kernel
theorem dX11_end_6 : decode cX11_end 6 = .ok (.getfield 70, 3) := by decide +kernel
theorem dX11_end_9 : decode cX11_end 9 = .ok (.if_icmp .le 5, 3) := by decide +kernel
theorem dX11_end_12 : decode cX11_end 12 = .ok (.iconst (-1), 1) := by decide +kernel
theorem dX11_end_13 : decode cX11_end 13 = .ok (.ireturn, 1) := by decide +kernel
theorem dX11_end_14 : decode cX11_end 14 = .ok (.aload_n 0, 1) := by decide +kernel
theorem dX11_end_15 : decode cX11_end 15 = .ok (.iload_n 1, 1) := by decide +kernel
theorem dX11_end_16 : decode cX11_end 16 = .ok (.putfield 70, 3) := by decide +kernel
theorem dX11_end_19 : decode cX11_end 19 = .ok (.iload_n 1, 1) := by decide +kernel
theorem dX11_end_20 : decode cX11_end 20 = .ok (.ireturn, 1) := by decide +kernel
theorem dX11_fails_0 : decode cX11_fails 0 = .ok (.aload_n 0, 1) := by decide +kernel
theorem dX11_fails_1 : decode cX11_fails 1 = .ok (.getfield 78, 3) := by decide +kernel
theorem dX11_fails_4 : decode cX11_fails 4 = .ok (.ifCond .ne 15, 3) := by decide +kernel
theorem dX11_fails_7 : decode cX11_fails 7 = .ok (.aload_n 0, 1) := by decide +kernel
theorem dX11_fails_8 : decode cX11_fails 8 = .ok (.iconst 1, 1) := by decide +kernel
theorem dX11_fails_9 : decode cX11_fails 9 = .ok (.bipush 8, 2) := by decide +kernel
theorem dX11_fails_11 : decode cX11_fails 11 = .ok (.iload_n 2, 1) := by decide +kernel
theorem dX11_fails_12 : decode cX11_fails 12 = .ok (.imul, 1) := by decide +kernel
theorem dX11_fails_13 : decode cX11_fails 13 = .ok (.iadd, 1) := by decide +kernel
theorem dX11_fails_14 : decode cX11_fails 14 = .ok (.iload_n 1, 1) := by decide +kernel
theorem dX11_fails_15 : decode cX11_fails 15 = .ok (.iadd, 1) := by decide +kernel
theorem dX11_fails_16 : decode cX11_fails 16 = .ok (.putfield 78, 3) := by decide +kernel
theorem dX11_fails_19 : decode cX11_fails 19 = .ok (.iconst 0, 1) := by decide +kernel
theorem dX11_fails_20 : decode cX11_fails 20 = .ok (.ireturn, 1) := by decide +kernel
theorem dX11_see_0 : decode cX11_see 0 = .ok (.aload_n 0, 1) := by decide +kernel
theorem dX11_see_1 : decode cX11_see 1 = .ok (.getfield 81, 3) := by decide +kernel
theorem dX11_see_4 : decode cX11_see 4 = .ok (.aload_n 0, 1) := by decide +kernel
theorem dX11_see_5 : decode cX11_see 5 = .ok (.getfield 70, 3) := by decide +kernel
theorem dX11_see_8 : decode cX11_see 8 = .ok (.if_icmp .ge 30, 3) := by decide +kernel
theorem dX11_see_11 : decode cX11_see 11 = .ok (.aload_n 0, 1) := by decide +kernel
theorem dX11_see_12 : decode cX11_see 12 = .ok (.getfield 7, 3) := by decide +kernel
theorem dX11_see_15 : decode cX11_see 15 = .ok (.aload_n 0, 1) := by decide +kernel
theorem dX11_see_16 : decode cX11_see 16 = .ok (.getfield 81, 3) := by decide +kernel
theorem dX11_see_19 : decode cX11_see 19 = .ok (.baload, 1) := by decide +kernel
theorem dX11_see_20 : decode cX11_see 20 = .ok (.bipush 32, 2) := by decide +kernel
theorem dX11_see_22 : decode cX11_see 22 = .ok (.if_icmp .ne 16, 3) := by decide +kernel
theorem dX11_see_25 : decode cX11_see 25 = .ok (.aload_n 0, 1) := by decide +kernel
theorem dX11_see_26 : decode cX11_see 26 = .ok (.dup, 1) := by decide +kernel
theorem dX11_see_27 : decode cX11_see 27 = .ok (.getfield 81, 3) := by decide +kernel
theorem dX11_see_30 : decode cX11_see 30 = .ok (.iconst 1, 1) := by decide +kernel
theorem dX11_see_31 : decode cX11_see 31 = .ok (.iadd, 1) := by decide +kernel
theorem dX11_see_32 : decode cX11_see 32 = .ok (.putfield 81, 3) := by decide +kernel
theorem dX11_see_35 : decode cX11_see 35 = .ok (.goto (-35), 3) := by decide +kernel
theorem dX11_see_38 : decode cX11_see 38 = .ok (.aload_n 0, 1) := by decide +kernel
theorem dX11_see_39 : decode cX11_see 39 = .ok (.getfield 81, 3) := by decide +kernel
theorem dX11_see_42 : decode cX11_see 42 = .ok (.aload_n 0, 1) := by decide +kernel
theorem dX11_see_43 : decode cX11_see 43 = .ok (.getfield 70, 3) := by decide +kernel
theorem dX11_see_46 : decode cX11_see 46 = .ok (.if_icmp .ge 19, 3) := by decide +kernel
theorem dX11_see_49 : decode cX11_see 49 = .ok (.aload_n 0, 1) := by decide +kernel
theorem dX11_see_50 : decode cX11_see 50 = .ok (.getfield 7, 3) := by decide +kernel
theorem dX11_see_53 : decode cX11_see 53 = .ok (.aload_n 0, 1) := by decide +kernel
theorem dX11_see_54 : decode cX11_see 54 = .ok (.getfield 81, 3) := by decide +kernel
theorem dX11_see_57 : decode cX11_see 57 = .ok (.baload, 1) := by decide +kernel
theorem dX11_see_58 : decode cX11_see 58 = .ok (.sipush 255, 3) := by decide +kernel
theorem dX11_see_61 : decode cX11_see 61 = .ok (.iand, 1) := by decide +kernel
theorem dX11_see_62 : decode cX11_see 62 = .ok (.goto 4, 3) := by decide +kernel
theorem dX11_see_65 : decode cX11_see 65 = .ok (.iconst (-1), 1) := by decide +kernel
theorem dX11_see_66 : decode cX11_see 66 = .ok (.ireturn, 1) := by decide +kernel
theorem dX11_isDigit_0 : decode cX11_isDigit 0 = .ok (.iload_n 1, 1) := by decide +kernel
theorem dX11_isDigit_1 : decode cX11_isDigit 1 = .ok (.aload_n 0, 1) := by decide +kernel
theorem dX11_isDigit_2 : decode cX11_isDigit 2 = .ok (.getfield 70, 3) := by decide +kernel
theorem dX11_isDigit_5 : decode cX11_isDigit 5 = .ok (.if_icmp .ge 29, 3) := by decide +kernel
theorem dX11_isDigit_8 : decode cX11_isDigit 8 = .ok (.aload_n 0, 1) := by decide +kernel
theorem dX11_isDigit_9 : decode cX11_isDigit 9 = .ok (.getfield 7, 3) := by decide +kernel
theorem dX11_isDigit_12 : decode cX11_isDigit 12 = .ok (.iload_n 1, 1) := by decide +kernel
theorem dX11_isDigit_13 : decode cX11_isDigit 13 = .ok (.baload, 1) := by decide +kernel
theorem dX11_isDigit_14 : decode cX11_isDigit 14 = .ok (.bipush 48, 2) := by decide +kernel
theorem dX11_isDigit_16 : decode cX11_isDigit 16 = .ok (.if_icmp .lt 18, 3) := by decide +kernel
theorem dX11_isDigit_19 : decode cX11_isDigit 19 = .ok (.aload_n 0, 1) := by decide +kernel
theorem dX11_isDigit_20 : decode cX11_isDigit 20 = .ok (.getfield 7, 3) := by decide +kernel
theorem dX11_isDigit_23 : decode cX11_isDigit 23 = .ok (.iload_n 1, 1) := by decide +kernel
theorem dX11_isDigit_24 : decode cX11_isDigit 24 = .ok (.baload, 1) := by decide +kernel
theorem dX11_isDigit_25 : decode cX11_isDigit 25 = .ok (.bipush 57, 2) := by decide +kernel
theorem dX11_isDigit_27 : decode cX11_isDigit 27 = .ok (.if_icmp .gt 7, 3) := by decide +kernel
theorem dX11_isDigit_30 : decode cX11_isDigit 30 = .ok (.iconst 1, 1) := by decide +kernel
theorem dX11_isDigit_31 : decode cX11_isDigit 31 = .ok (.goto 4, 3) := by decide +kernel
theorem dX11_isDigit_34 : decode cX11_isDigit 34 = .ok (.iconst 0, 1) := by decide +kernel
theorem dX11_isDigit_35 : decode cX11_isDigit 35 = .ok (.ireturn, 1) := by decide +kernel
theorem dX11_isLetter_0 : decode cX11_isLetter 0 = .ok (.iload_n 1, 1) := by decide +kernel
theorem dX11_isLetter_1 : decode cX11_isLetter 1 = .ok (.aload_n 0, 1) := by decide +kernel
theorem dX11_isLetter_2 : decode cX11_isLetter 2 = .ok (.getfield 70, 3) := by decide +kernel
theorem dX11_isLetter_5 : decode cX11_isLetter 5 = .ok (.if_icmp .ge 29, 3) := by decide +kernel
theorem dX11_isLetter_8 : decode cX11_isLetter 8 = .ok (.aload_n 0, 1) := by decide +kernel
theorem dX11_isLetter_9 : decode cX11_isLetter 9 = .ok (.getfield 7, 3) := by decide +kernel
theorem dX11_isLetter_12 : decode cX11_isLetter 12 = .ok (.iload_n 1, 1) := by decide +kernel
theorem dX11_isLetter_13 : decode cX11_isLetter 13 = .ok (.baload, 1) := by decide +kernel
theorem dX11_isLetter_14 : decode cX11_isLetter 14 = .ok (.bipush 97, 2) := by decide +kernel
theorem dX11_isLetter_16 : decode cX11_isLetter 16 = .ok (.if_icmp .lt 18, 3) := by decide +kernel
theorem dX11_isLetter_19 : decode cX11_isLetter 19 = .ok (.aload_n 0, 1) := by decide +kernel
theorem dX11_isLetter_20 : decode cX11_isLetter 20 = .ok (.getfield 7, 3) := by decide +kernel
theorem dX11_isLetter_23 : decode cX11_isLetter 23 = .ok (.iload_n 1, 1) := by decide +kernel
theorem dX11_isLetter_24 : decode cX11_isLetter 24 = .ok (.baload, 1) := by decide +kernel
theorem dX11_isLetter_25 : decode cX11_isLetter 25 = .ok (.bipush 122, 2) := by decide +kernel
theorem dX11_isLetter_27 : decode cX11_isLetter 27 = .ok (.if_icmp .gt 7, 3) := by decide +kernel
theorem dX11_isLetter_30 : decode cX11_isLetter 30 = .ok (.iconst 1, 1) := by decide +kernel
theorem dX11_isLetter_31 : decode cX11_isLetter 31 = .ok (.goto 4, 3) := by decide +kernel
theorem dX11_isLetter_34 : decode cX11_isLetter 34 = .ok (.iconst 0, 1) := by decide +kernel
theorem dX11_isLetter_35 : decode cX11_isLetter 35 = .ok (.ireturn, 1) := by decide +kernel
theorem dX11_isWord_0 : decode cX11_isWord 0 = .ok (.aload_n 0, 1) := by decide +kernel
theorem dX11_isWord_1 : decode cX11_isWord 1 = .ok (.invokevirtual 84, 3) := by decide +kernel
theorem dX11_isWord_4 : decode cX11_isWord 4 = .ok (.pop, 1) := by decide +kernel
theorem dX11_isWord_5 : decode cX11_isWord 5 = .ok (.lconst 0, 1) := by decide +kernel
theorem dX11_isWord_6 : decode cX11_isWord 6 = .ok (.lstore_n 3, 1) := by decide +kernel
theorem dX11_isWord_7 : decode cX11_isWord 7 = .ok (.iconst 0, 1) := by decide +kernel
theorem dX11_isWord_8 : decode cX11_isWord 8 = .ok (.istore 5, 2) := by decide +kernel
theorem dX11_isWord_10 : decode cX11_isWord 10 = .ok (.aload_n 0, 1) := by decide +kernel
theorem dX11_isWord_11 : decode cX11_isWord 11 = .ok (.aload_n 0, 1) := by decide +kernel
theorem dX11_isWord_12 : decode cX11_isWord 12 = .ok (.getfield 81, 3) := by decide +kernel
theorem dX11_isWord_15 : decode cX11_isWord 15 = .ok (.iload 5, 2) := by decide +kernel
theorem dX11_isWord_17 : decode cX11_isWord 17 = .ok (.iadd, 1) := by decide +kernel
theorem dX11_isWord_18 : decode cX11_isWord 18 = .ok (.invokevirtual 88, 3) := by decide +kernel
theorem dX11_isWord_21 : decode cX11_isWord 21 = .ok (.ifCond .eq 35, 3) := by decide +kernel
theorem dX11_isWord_24 : decode cX11_isWord 24 = .ok (.iload 5, 2) := by decide +kernel
theorem dX11_isWord_26 : decode cX11_isWord 26 = .ok (.bipush 8, 2) := by decide +kernel
theorem dX11_isWord_28 : decode cX11_isWord 28 = .ok (.if_icmp .ge 22, 3) := by decide +kernel
theorem dX11_isWord_31 : decode cX11_isWord 31 = .ok (.lload_n 3, 1) := by decide +kernel
theorem dX11_isWord_32 : decode cX11_isWord 32 = .ok (.bipush 8, 2) := by decide +kernel
theorem dX11_isWord_34 : decode cX11_isWord 34 = .ok (.lshl, 1) := by decide +kernel
theorem dX11_isWord_35 : decode cX11_isWord 35 = .ok (.aload_n 0, 1) := by decide +kernel
theorem dX11_isWord_36 : decode cX11_isWord 36 = .ok (.getfield 7, 3) := by decide +kernel
theorem dX11_isWord_39 : decode cX11_isWord 39 = .ok (.aload_n 0, 1) := by decide +kernel
theorem dX11_isWord_40 : decode cX11_isWord 40 = .ok (.getfield 81, 3) := by decide +kernel
theorem dX11_isWord_43 : decode cX11_isWord 43 = .ok (.iload 5, 2) := by decide +kernel
theorem dX11_isWord_45 : decode cX11_isWord 45 = .ok (.iadd, 1) := by decide +kernel
theorem dX11_isWord_46 : decode cX11_isWord 46 = .ok (.baload, 1) := by decide +kernel
theorem dX11_isWord_47 : decode cX11_isWord 47 = .ok (.i2l, 1) := by decide +kernel
theorem dX11_isWord_48 : decode cX11_isWord 48 = .ok (.lor, 1) := by decide +kernel
theorem dX11_isWord_49 : decode cX11_isWord 49 = .ok (.lstore_n 3, 1) := by decide +kernel
theorem dX11_isWord_50 : decode cX11_isWord 50 = .ok (.iinc 5 1, 3) := by decide +kernel
theorem dX11_isWord_53 : decode cX11_isWord 53 = .ok (.goto (-43), 3) := by decide +kernel
theorem dX11_isWord_56 : decode cX11_isWord 56 = .ok (.iload 5, 2) := by decide +kernel
theorem dX11_isWord_58 : decode cX11_isWord 58 = .ok (.ifCond .le 20, 3) := by decide +kernel
theorem dX11_isWord_61 : decode cX11_isWord 61 = .ok (.iload 5, 2) := by decide +kernel
theorem dX11_isWord_63 : decode cX11_isWord 63 = .ok (.bipush 8, 2) := by decide +kernel
theorem dX11_isWord_65 : decode cX11_isWord 65 = .ok (.if_icmp .ge 13, 3) := by decide +kernel
theorem dX11_isWord_68 : decode cX11_isWord 68 = .ok (.lload_n 3, 1) := by decide +kernel
theorem dX11_isWord_69 : decode cX11_isWord 69 = .ok (.lload_n 1, 1) := by decide +kernel
theorem dX11_isWord_70 : decode cX11_isWord 70 = .ok (.lcmp, 1) := by decide +kernel
theorem dX11_isWord_71 : decode cX11_isWord 71 = .ok (.ifCond .ne 7, 3) := by decide +kernel
theorem dX11_isWord_74 : decode cX11_isWord 74 = .ok (.iconst 1, 1) := by decide +kernel
theorem dX11_isWord_75 : decode cX11_isWord 75 = .ok (.goto 4, 3) := by decide +kernel
theorem dX11_isWord_78 : decode cX11_isWord 78 = .ok (.iconst 0, 1) := by decide +kernel
theorem dX11_isWord_79 : decode cX11_isWord 79 = .ok (.ireturn, 1) := by decide +kernel
theorem dX11_passWord_0 : decode cX11_passWord 0 = .ok (.aload_n 0, 1) := by decide +kernel
theorem dX11_passWord_1 : decode cX11_passWord 1 = .ok (.aload_n 0, 1) := by decide +kernel
theorem dX11_passWord_2 : decode cX11_passWord 2 = .ok (.getfield 81, 3) := by decide +kernel
theorem dX11_passWord_5 : decode cX11_passWord 5 = .ok (.invokevirtual 88, 3) := by decide +kernel
theorem dX11_passWord_8 : decode cX11_passWord 8 = .ok (.ifCond .eq 16, 3) := by decide +kernel
theorem dX11_passWord_11 : decode cX11_passWord 11 = .ok (.aload_n 0, 1) := by decide +kernel
theorem dX11_passWord_12 : decode cX11_passWord 12 = .ok (.dup, 1) := by decide +kernel
theorem dX11_passWord_13 : decode cX11_passWord 13 = .ok (.getfield 81, 3) := by decide +kernel
theorem dX11_passWord_16 : decode cX11_passWord 16 = .ok (.iconst 1, 1) := by decide +kernel
theorem dX11_passWord_17 : decode cX11_passWord 17 = .ok (.iadd, 1) := by decide +kernel
theorem dX11_passWord_18 : decode cX11_passWord 18 = .ok (.putfield 81, 3) := by decide +kernel
theorem dX11_passWord_21 : decode cX11_passWord 21 = .ok (.goto (-21), 3) := by decide +kernel
theorem dX11_passWord_24 : decode cX11_passWord 24 = .ok (.return_, 1) := by decide +kernel
theorem dX11_takesWord_0 : decode cX11_takesWord 0 = .ok (.aload_n 0, 1) := by decide +kernel
theorem dX11_takesWord_1 : decode cX11_takesWord 1 = .ok (.lload_n 1, 1) := by decide +kernel
theorem dX11_takesWord_2 : decode cX11_takesWord 2 = .ok (.invokevirtual 92, 3) := by decide +kernel
theorem dX11_takesWord_5 : decode cX11_takesWord 5 = .ok (.ifCond .ne 5, 3) := by decide +kernel
theorem dX11_takesWord_8 : decode cX11_takesWord 8 = .ok (.iconst 0, 1) := by decide +kernel
theorem dX11_takesWord_9 : decode cX11_takesWord 9 = .ok (.ireturn, 1) := by decide +kernel
theorem dX11_takesWord_10 : decode cX11_takesWord 10 = .ok (.aload_n 0, 1) := by decide +kernel
theorem dX11_takesWord_11 : decode cX11_takesWord 11 = .ok (.invokevirtual 96, 3) := by decide +kernel
theorem dX11_takesWord_14 : decode cX11_takesWord 14 = .ok (.iconst 1, 1) := by decide +kernel
theorem dX11_takesWord_15 : decode cX11_takesWord 15 = .ok (.ireturn, 1) := by decide +kernel
theorem dX11_numberHere_0 : decode cX11_numberHere 0 = .ok (.aload_n 0, 1) := by decide +kernel
theorem dX11_numberHere_1 : decode cX11_numberHere 1 = .ok (.invokevirtual 84, 3) := by decide +kernel
theorem dX11_numberHere_4 : decode cX11_numberHere 4 = .ok (.pop, 1) := by decide +kernel
theorem dX11_numberHere_5 : decode cX11_numberHere 5 = .ok (.aload_n 0, 1) := by decide +kernel
theorem dX11_numberHere_6 : decode cX11_numberHere 6 = .ok (.aload_n 0, 1) := by decide +kernel
theorem dX11_numberHere_7 : decode cX11_numberHere 7 = .ok (.getfield 81, 3) := by decide +kernel
theorem dX11_numberHere_10 : decode cX11_numberHere 10 = .ok (.invokevirtual 99, 3) := by decide +kernel
theorem dX11_numberHere_13 : decode cX11_numberHere 13 = .ok (.ifCond .ne 13, 3) := by decide +kernel
theorem dX11_numberHere_16 : decode cX11_numberHere 16 = .ok (.aload_n 0, 1) := by decide +kernel
theorem dX11_numberHere_17 : decode cX11_numberHere 17 = .ok (.iconst 0, 1) := by decide +kernel
theorem dX11_numberHere_18 : decode cX11_numberHere 18 = .ok (.aload_n 0, 1) := by decide +kernel
theorem dX11_numberHere_19 : decode cX11_numberHere 19 = .ok (.getfield 81, 3) := by decide +kernel
theorem dX11_numberHere_22 : decode cX11_numberHere 22 = .ok (.invokevirtual 102, 3) := by decide +kernel
theorem dX11_numberHere_25 : decode cX11_numberHere 25 = .ok (.ireturn, 1) := by decide +kernel
theorem dX11_numberHere_26 : decode cX11_numberHere 26 = .ok (.aload_n 0, 1) := by decide +kernel
theorem dX11_numberHere_27 : decode cX11_numberHere 27 = .ok (.getfield 81, 3) := by decide +kernel
theorem dX11_numberHere_30 : decode cX11_numberHere 30 = .ok (.istore_n 3, 1) := by decide +kernel
theorem dX11_numberHere_31 : decode cX11_numberHere 31 = .ok (.iconst 0, 1) := by decide +kernel
theorem dX11_numberHere_32 : decode cX11_numberHere 32 = .ok (.istore 4, 2) := by decide +kernel
theorem dX11_numberHere_34 : decode cX11_numberHere 34 = .ok (.aload_n 0, 1) := by decide +kernel
theorem dX11_numberHere_35 : decode cX11_numberHere 35 = .ok (.aload_n 0, 1) := by decide +kernel
theorem dX11_numberHere_36 : decode cX11_numberHere 36 = .ok (.getfield 81, 3) := by decide +kernel
theorem dX11_numberHere_39 : decode cX11_numberHere 39 = .ok (.invokevirtual 99, 3) := by decide +kernel
theorem dX11_numberHere_42 : decode cX11_numberHere 42 = .ok (.ifCond .eq 46, 3) := by decide +kernel
theorem dX11_numberHere_45 : decode cX11_numberHere 45 = .ok (.aload_n 0, 1) := by decide +kernel
theorem dX11_numberHere_46 : decode cX11_numberHere 46 = .ok (.getfield 81, 3) := by decide +kernel
theorem dX11_numberHere_49 : decode cX11_numberHere 49 = .ok (.iload_n 3, 1) := by decide +kernel
theorem dX11_numberHere_50 : decode cX11_numberHere 50 = .ok (.isub, 1) := by decide +kernel
theorem dX11_numberHere_51 : decode cX11_numberHere 51 = .ok (.iconst 5, 1) := by decide +kernel
theorem dX11_numberHere_52 : decode cX11_numberHere 52 = .ok (.if_icmp .ge 23, 3) := by decide +kernel
theorem dX11_numberHere_55 : decode cX11_numberHere 55 = .ok (.bipush 10, 2) := by decide +kernel
