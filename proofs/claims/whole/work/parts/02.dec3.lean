theorem dX11_cheapestSet_16 : decode cX11_cheapestSet 16 = .ok (.if_icmp .ge 86, 3) := by decide +kernel
theorem dX11_cheapestSet_19 : decode cX11_cheapestSet 19 = .ok (.iload 5, 2) := by decide +kernel
theorem dX11_cheapestSet_21 : decode cX11_cheapestSet 21 = .ok (.iload_n 3, 1) := by decide +kernel
theorem dX11_cheapestSet_22 : decode cX11_cheapestSet 22 = .ok (.iand, 1) := by decide +kernel
theorem dX11_cheapestSet_23 : decode cX11_cheapestSet 23 = .ok (.ifCond .eq 6, 3) := by decide +kernel
theorem dX11_cheapestSet_26 : decode cX11_cheapestSet 26 = .ok (.goto 70, 3) := by decide +kernel
theorem dX11_cheapestSet_29 : decode cX11_cheapestSet 29 = .ok (.aload_n 0, 1) := by decide +kernel
theorem dX11_cheapestSet_30 : decode cX11_cheapestSet 30 = .ok (.iload 5, 2) := by decide +kernel
theorem dX11_cheapestSet_32 : decode cX11_cheapestSet 32 = .ok (.iload_n 2, 1) := by decide +kernel
theorem dX11_cheapestSet_33 : decode cX11_cheapestSet 33 = .ok (.invokevirtual 358, 3) := by decide +kernel
theorem dX11_cheapestSet_36 : decode cX11_cheapestSet 36 = .ok (.istore 6, 2) := by decide +kernel
theorem dX11_cheapestSet_38 : decode cX11_cheapestSet 38 = .ok (.iload 4, 2) := by decide +kernel
theorem dX11_cheapestSet_40 : decode cX11_cheapestSet 40 = .ok (.ifCond .lt 34, 3) := by decide +kernel
theorem dX11_cheapestSet_43 : decode cX11_cheapestSet 43 = .ok (.iload 6, 2) := by decide +kernel
theorem dX11_cheapestSet_45 : decode cX11_cheapestSet 45 = .ok (.aload_n 0, 1) := by decide +kernel
theorem dX11_cheapestSet_46 : decode cX11_cheapestSet 46 = .ok (.getfield 361, 3) := by decide +kernel
theorem dX11_cheapestSet_49 : decode cX11_cheapestSet 49 = .ok (.if_icmp .gt 47, 3) := by decide +kernel
theorem dX11_cheapestSet_52 : decode cX11_cheapestSet 52 = .ok (.iload 6, 2) := by decide +kernel
theorem dX11_cheapestSet_54 : decode cX11_cheapestSet 54 = .ok (.aload_n 0, 1) := by decide +kernel
theorem dX11_cheapestSet_55 : decode cX11_cheapestSet 55 = .ok (.getfield 361, 3) := by decide +kernel
theorem dX11_cheapestSet_58 : decode cX11_cheapestSet 58 = .ok (.if_icmp .ne 16, 3) := by decide +kernel
theorem dX11_cheapestSet_61 : decode cX11_cheapestSet 61 = .ok (.iload 5, 2) := by decide +kernel
theorem dX11_cheapestSet_63 : decode cX11_cheapestSet 63 = .ok (.invokestatic 364, 3) := by decide +kernel
theorem dX11_cheapestSet_66 : decode cX11_cheapestSet 66 = .ok (.iload 4, 2) := by decide +kernel
theorem dX11_cheapestSet_68 : decode cX11_cheapestSet 68 = .ok (.invokestatic 364, 3) := by decide +kernel
theorem dX11_cheapestSet_71 : decode cX11_cheapestSet 71 = .ok (.if_icmp .ge 25, 3) := by decide +kernel
theorem dX11_cheapestSet_74 : decode cX11_cheapestSet 74 = .ok (.aload_n 0, 1) := by decide +kernel
theorem dX11_cheapestSet_75 : decode cX11_cheapestSet 75 = .ok (.iload_n 1, 1) := by decide +kernel
theorem dX11_cheapestSet_76 : decode cX11_cheapestSet 76 = .ok (.invokevirtual 352, 3) := by decide +kernel
theorem dX11_cheapestSet_79 : decode cX11_cheapestSet 79 = .ok (.iload_n 2, 1) := by decide +kernel
theorem dX11_cheapestSet_80 : decode cX11_cheapestSet 80 = .ok (.if_icmp .eq 6, 3) := by decide +kernel
theorem dX11_cheapestSet_83 : decode cX11_cheapestSet 83 = .ok (.goto 13, 3) := by decide +kernel
theorem dX11_cheapestSet_86 : decode cX11_cheapestSet 86 = .ok (.iload 5, 2) := by decide +kernel
theorem dX11_cheapestSet_88 : decode cX11_cheapestSet 88 = .ok (.istore 4, 2) := by decide +kernel
theorem dX11_cheapestSet_90 : decode cX11_cheapestSet 90 = .ok (.aload_n 0, 1) := by decide +kernel
theorem dX11_cheapestSet_91 : decode cX11_cheapestSet 91 = .ok (.iload 6, 2) := by decide +kernel
theorem dX11_cheapestSet_93 : decode cX11_cheapestSet 93 = .ok (.putfield 361, 3) := by decide +kernel
theorem dX11_cheapestSet_96 : decode cX11_cheapestSet 96 = .ok (.iinc 5 1, 3) := by decide +kernel
theorem dX11_cheapestSet_99 : decode cX11_cheapestSet 99 = .ok (.goto (-93), 3) := by decide +kernel
theorem dX11_cheapestSet_102 : decode cX11_cheapestSet 102 = .ok (.iload 4, 2) := by decide +kernel
theorem dX11_cheapestSet_104 : decode cX11_cheapestSet 104 = .ok (.ireturn, 1) := by decide +kernel
theorem dX11_canBuy_0 : decode cX11_canBuy 0 = .ok (.aload_n 0, 1) := by decide +kernel
theorem dX11_canBuy_1 : decode cX11_canBuy 1 = .ok (.getfield 45, 3) := by decide +kernel
theorem dX11_canBuy_4 : decode cX11_canBuy 4 = .ok (.iconst 0, 1) := by decide +kernel
theorem dX11_canBuy_5 : decode cX11_canBuy 5 = .ok (.iaload, 1) := by decide +kernel
theorem dX11_canBuy_6 : decode cX11_canBuy 6 = .ok (.ifCond .le 29, 3) := by decide +kernel
theorem dX11_canBuy_9 : decode cX11_canBuy 9 = .ok (.iload_n 1, 1) := by decide +kernel
theorem dX11_canBuy_10 : decode cX11_canBuy 10 = .ok (.invokestatic 346, 3) := by decide +kernel
theorem dX11_canBuy_13 : decode cX11_canBuy 13 = .ok (.ifCond .eq 22, 3) := by decide +kernel
theorem dX11_canBuy_16 : decode cX11_canBuy 16 = .ok (.iload_n 2, 1) := by decide +kernel
theorem dX11_canBuy_17 : decode cX11_canBuy 17 = .ok (.invokestatic 276, 3) := by decide +kernel
theorem dX11_canBuy_20 : decode cX11_canBuy 20 = .ok (.ifCond .eq 15, 3) := by decide +kernel
theorem dX11_canBuy_23 : decode cX11_canBuy 23 = .ok (.aload_n 0, 1) := by decide +kernel
theorem dX11_canBuy_24 : decode cX11_canBuy 24 = .ok (.iload_n 3, 1) := by decide +kernel
theorem dX11_canBuy_25 : decode cX11_canBuy 25 = .ok (.invokevirtual 367, 3) := by decide +kernel
theorem dX11_canBuy_28 : decode cX11_canBuy 28 = .ok (.ifCond .eq 7, 3) := by decide +kernel
theorem dX11_canBuy_31 : decode cX11_canBuy 31 = .ok (.iconst 1, 1) := by decide +kernel
theorem dX11_canBuy_32 : decode cX11_canBuy 32 = .ok (.goto 4, 3) := by decide +kernel
theorem dX11_canBuy_35 : decode cX11_canBuy 35 = .ok (.iconst 0, 1) := by decide +kernel
theorem dX11_canBuy_36 : decode cX11_canBuy 36 = .ok (.ireturn, 1) := by decide +kernel
theorem dX11_cheapest_0 : decode cX11_cheapest 0 = .ok (.aload_n 0, 1) := by decide +kernel
theorem dX11_cheapest_1 : decode cX11_cheapest 1 = .ok (.iload_n 1, 1) := by decide +kernel
theorem dX11_cheapest_2 : decode cX11_cheapest 2 = .ok (.iload_n 2, 1) := by decide +kernel
theorem dX11_cheapest_3 : decode cX11_cheapest 3 = .ok (.iload_n 3, 1) := by decide +kernel
theorem dX11_cheapest_4 : decode cX11_cheapest 4 = .ok (.invokevirtual 370, 3) := by decide +kernel
theorem dX11_cheapest_7 : decode cX11_cheapest 7 = .ok (.ifCond .eq 14, 3) := by decide +kernel
theorem dX11_cheapest_10 : decode cX11_cheapest 10 = .ok (.iload 4, 2) := by decide +kernel
theorem dX11_cheapest_12 : decode cX11_cheapest 12 = .ok (.i2l, 1) := by decide +kernel
theorem dX11_cheapest_13 : decode cX11_cheapest 13 = .ok (.lconst 0, 1) := by decide +kernel
theorem dX11_cheapest_14 : decode cX11_cheapest 14 = .ok (.lconst 1, 1) := by decide +kernel
theorem dX11_cheapest_15 : decode cX11_cheapest 15 = .ok (.invokestatic 109, 3) := by decide +kernel
theorem dX11_cheapest_18 : decode cX11_cheapest 18 = .ok (.ifCond .ne 5, 3) := by decide +kernel
theorem dX11_cheapest_21 : decode cX11_cheapest 21 = .ok (.iconst (-1), 1) := by decide +kernel
theorem dX11_cheapest_22 : decode cX11_cheapest 22 = .ok (.ireturn, 1) := by decide +kernel
theorem dX11_cheapest_23 : decode cX11_cheapest 23 = .ok (.aload_n 0, 1) := by decide +kernel
theorem dX11_cheapest_24 : decode cX11_cheapest 24 = .ok (.invokevirtual 349, 3) := by decide +kernel
theorem dX11_cheapest_27 : decode cX11_cheapest 27 = .ok (.aload_n 0, 1) := by decide +kernel
theorem dX11_cheapest_28 : decode cX11_cheapest 28 = .ok (.invokevirtual 373, 3) := by decide +kernel
theorem dX11_cheapest_31 : decode cX11_cheapest 31 = .ok (.aload_n 0, 1) := by decide +kernel
theorem dX11_cheapest_32 : decode cX11_cheapest 32 = .ok (.iload_n 1, 1) := by decide +kernel
theorem dX11_cheapest_33 : decode cX11_cheapest 33 = .ok (.iload_n 2, 1) := by decide +kernel
theorem dX11_cheapest_34 : decode cX11_cheapest 34 = .ok (.iload_n 3, 1) := by decide +kernel
theorem dX11_cheapest_35 : decode cX11_cheapest 35 = .ok (.invokevirtual 376, 3) := by decide +kernel
theorem dX11_cheapest_38 : decode cX11_cheapest 38 = .ok (.istore 5, 2) := by decide +kernel
theorem dX11_cheapest_40 : decode cX11_cheapest 40 = .ok (.iload 5, 2) := by decide +kernel
theorem dX11_cheapest_42 : decode cX11_cheapest 42 = .ok (.ifCond .ge 8, 3) := by decide +kernel
theorem dX11_cheapest_45 : decode cX11_cheapest 45 = .ok (.bipush (-2), 2) := by decide +kernel
theorem dX11_cheapest_47 : decode cX11_cheapest 47 = .ok (.goto 17, 3) := by decide +kernel
theorem dX11_cheapest_50 : decode cX11_cheapest 50 = .ok (.iload 4, 2) := by decide +kernel
theorem dX11_cheapest_52 : decode cX11_cheapest 52 = .ok (.ifCond .ne 10, 3) := by decide +kernel
theorem dX11_cheapest_55 : decode cX11_cheapest 55 = .ok (.aload_n 0, 1) := by decide +kernel
theorem dX11_cheapest_56 : decode cX11_cheapest 56 = .ok (.getfield 361, 3) := by decide +kernel
theorem dX11_cheapest_59 : decode cX11_cheapest 59 = .ok (.goto 5, 3) := by decide +kernel
theorem dX11_cheapest_62 : decode cX11_cheapest 62 = .ok (.iload 5, 2) := by decide +kernel
theorem dX11_cheapest_64 : decode cX11_cheapest 64 = .ok (.ireturn, 1) := by decide +kernel
theorem dX11_answer_0 : decode cX11_answer 0 = .ok (.aload_n 0, 1) := by decide +kernel
theorem dX11_answer_1 : decode cX11_answer 1 = .ok (.iload_n 1, 1) := by decide +kernel
theorem dX11_answer_2 : decode cX11_answer 2 = .ok (.iload_n 2, 1) := by decide +kernel
theorem dX11_answer_3 : decode cX11_answer 3 = .ok (.iload_n 3, 1) := by decide +kernel
theorem dX11_answer_4 : decode cX11_answer 4 = .ok (.invokevirtual 370, 3) := by decide +kernel
theorem dX11_answer_7 : decode cX11_answer 7 = .ok (.ifCond .eq 26, 3) := by decide +kernel
theorem dX11_answer_10 : decode cX11_answer 10 = .ok (.aload_n 0, 1) := by decide +kernel
theorem dX11_answer_11 : decode cX11_answer 11 = .ok (.iload_n 1, 1) := by decide +kernel
theorem dX11_answer_12 : decode cX11_answer 12 = .ok (.iload 4, 2) := by decide +kernel
theorem dX11_answer_14 : decode cX11_answer 14 = .ok (.iload 5, 2) := by decide +kernel
theorem dX11_answer_16 : decode cX11_answer 16 = .ok (.invokevirtual 370, 3) := by decide +kernel
theorem dX11_answer_19 : decode cX11_answer 19 = .ok (.ifCond .eq 14, 3) := by decide +kernel
theorem dX11_answer_22 : decode cX11_answer 22 = .ok (.iload 6, 2) := by decide +kernel
theorem dX11_answer_24 : decode cX11_answer 24 = .ok (.i2l, 1) := by decide +kernel
theorem dX11_answer_25 : decode cX11_answer 25 = .ok (.lconst 0, 1) := by decide +kernel
theorem dX11_answer_26 : decode cX11_answer 26 = .ok (.lconst 1, 1) := by decide +kernel
theorem dX11_answer_27 : decode cX11_answer 27 = .ok (.invokestatic 109, 3) := by decide +kernel
theorem dX11_answer_30 : decode cX11_answer 30 = .ok (.ifCond .ne 5, 3) := by decide +kernel
theorem dX11_answer_33 : decode cX11_answer 33 = .ok (.iconst (-1), 1) := by decide +kernel
theorem dX11_answer_34 : decode cX11_answer 34 = .ok (.ireturn, 1) := by decide +kernel
theorem dX11_answer_35 : decode cX11_answer 35 = .ok (.aload_n 0, 1) := by decide +kernel
theorem dX11_answer_36 : decode cX11_answer 36 = .ok (.invokevirtual 349, 3) := by decide +kernel
theorem dX11_answer_39 : decode cX11_answer 39 = .ok (.aload_n 0, 1) := by decide +kernel
theorem dX11_answer_40 : decode cX11_answer 40 = .ok (.invokevirtual 373, 3) := by decide +kernel
theorem dX11_answer_43 : decode cX11_answer 43 = .ok (.aload_n 0, 1) := by decide +kernel
theorem dX11_answer_44 : decode cX11_answer 44 = .ok (.iload_n 1, 1) := by decide +kernel
theorem dX11_answer_45 : decode cX11_answer 45 = .ok (.iload_n 2, 1) := by decide +kernel
theorem dX11_answer_46 : decode cX11_answer 46 = .ok (.iload_n 3, 1) := by decide +kernel
theorem dX11_answer_47 : decode cX11_answer 47 = .ok (.invokevirtual 376, 3) := by decide +kernel
theorem dX11_answer_50 : decode cX11_answer 50 = .ok (.istore 7, 2) := by decide +kernel
theorem dX11_answer_52 : decode cX11_answer 52 = .ok (.iload 7, 2) := by decide +kernel
theorem dX11_answer_54 : decode cX11_answer 54 = .ok (.ifCond .ge 6, 3) := by decide +kernel
theorem dX11_answer_57 : decode cX11_answer 57 = .ok (.bipush (-2), 2) := by decide +kernel
theorem dX11_answer_59 : decode cX11_answer 59 = .ok (.ireturn, 1) := by decide +kernel
theorem dX11_answer_60 : decode cX11_answer 60 = .ok (.aload_n 0, 1) := by decide +kernel
theorem dX11_answer_61 : decode cX11_answer 61 = .ok (.iload 7, 2) := by decide +kernel
theorem dX11_answer_63 : decode cX11_answer 63 = .ok (.iload_n 2, 1) := by decide +kernel
theorem dX11_answer_64 : decode cX11_answer 64 = .ok (.invokevirtual 358, 3) := by decide +kernel
theorem dX11_answer_67 : decode cX11_answer 67 = .ok (.pop, 1) := by decide +kernel
theorem dX11_answer_68 : decode cX11_answer 68 = .ok (.aload_n 0, 1) := by decide +kernel
theorem dX11_answer_69 : decode cX11_answer 69 = .ok (.invokevirtual 373, 3) := by decide +kernel
theorem dX11_answer_72 : decode cX11_answer 72 = .ok (.aload_n 0, 1) := by decide +kernel
theorem dX11_answer_73 : decode cX11_answer 73 = .ok (.iload_n 1, 1) := by decide +kernel
theorem dX11_answer_74 : decode cX11_answer 74 = .ok (.iload 4, 2) := by decide +kernel
theorem dX11_answer_76 : decode cX11_answer 76 = .ok (.iload 5, 2) := by decide +kernel
theorem dX11_answer_78 : decode cX11_answer 78 = .ok (.invokevirtual 376, 3) := by decide +kernel
theorem dX11_answer_81 : decode cX11_answer 81 = .ok (.istore 7, 2) := by decide +kernel
theorem dX11_answer_83 : decode cX11_answer 83 = .ok (.iload 7, 2) := by decide +kernel
theorem dX11_answer_85 : decode cX11_answer 85 = .ok (.ifCond .ge 8, 3) := by decide +kernel
theorem dX11_answer_88 : decode cX11_answer 88 = .ok (.bipush (-2), 2) := by decide +kernel
theorem dX11_answer_90 : decode cX11_answer 90 = .ok (.goto 17, 3) := by decide +kernel
theorem dX11_answer_93 : decode cX11_answer 93 = .ok (.iload 6, 2) := by decide +kernel
theorem dX11_answer_95 : decode cX11_answer 95 = .ok (.ifCond .ne 10, 3) := by decide +kernel
theorem dX11_answer_98 : decode cX11_answer 98 = .ok (.aload_n 0, 1) := by decide +kernel
theorem dX11_answer_99 : decode cX11_answer 99 = .ok (.getfield 361, 3) := by decide +kernel
theorem dX11_answer_102 : decode cX11_answer 102 = .ok (.goto 5, 3) := by decide +kernel
theorem dX11_answer_105 : decode cX11_answer 105 = .ok (.iload 7, 2) := by decide +kernel
theorem dX11_answer_107 : decode cX11_answer 107 = .ok (.ireturn, 1) := by decide +kernel
theorem dX11_bought_0 : decode cX11_bought 0 = .ok (.aload_n 0, 1) := by decide +kernel
theorem dX11_bought_1 : decode cX11_bought 1 = .ok (.getfield 45, 3) := by decide +kernel
theorem dX11_bought_4 : decode cX11_bought 4 = .ok (.iconst 0, 1) := by decide +kernel
theorem dX11_bought_5 : decode cX11_bought 5 = .ok (.iaload, 1) := by decide +kernel
theorem dX11_bought_6 : decode cX11_bought 6 = .ok (.ifCond .eq 22, 3) := by decide +kernel
theorem dX11_bought_9 : decode cX11_bought 9 = .ok (.iload_n 1, 1) := by decide +kernel
theorem dX11_bought_10 : decode cX11_bought 10 = .ok (.invokestatic 346, 3) := by decide +kernel
theorem dX11_bought_13 : decode cX11_bought 13 = .ok (.ifCond .eq 15, 3) := by decide +kernel
theorem dX11_bought_16 : decode cX11_bought 16 = .ok (.iload_n 2, 1) := by decide +kernel
theorem dX11_bought_17 : decode cX11_bought 17 = .ok (.i2l, 1) := by decide +kernel
theorem dX11_bought_18 : decode cX11_bought 18 = .ok (.lconst 0, 1) := by decide +kernel
theorem dX11_bought_19 : decode cX11_bought 19 = .ok (.ldc2_w 379, 3) := by decide +kernel
theorem dX11_bought_22 : decode cX11_bought 22 = .ok (.invokestatic 109, 3) := by decide +kernel
theorem dX11_bought_25 : decode cX11_bought 25 = .ok (.ifCond .ne 5, 3) := by decide +kernel
theorem dX11_bought_28 : decode cX11_bought 28 = .ok (.iconst (-1), 1) := by decide +kernel
theorem dX11_bought_29 : decode cX11_bought 29 = .ok (.ireturn, 1) := by decide +kernel
theorem dX11_bought_30 : decode cX11_bought 30 = .ok (.aload_n 0, 1) := by decide +kernel
theorem dX11_bought_31 : decode cX11_bought 31 = .ok (.invokevirtual 349, 3) := by decide +kernel
theorem dX11_bought_34 : decode cX11_bought 34 = .ok (.aload_n 0, 1) := by decide +kernel
theorem dX11_bought_35 : decode cX11_bought 35 = .ok (.invokevirtual 373, 3) := by decide +kernel
theorem dX11_bought_38 : decode cX11_bought 38 = .ok (.iconst 0, 1) := by decide +kernel
theorem dX11_bought_39 : decode cX11_bought 39 = .ok (.istore_n 3, 1) := by decide +kernel
theorem dX11_bought_40 : decode cX11_bought 40 = .ok (.iconst 0, 1) := by decide +kernel
theorem dX11_bought_41 : decode cX11_bought 41 = .ok (.istore 4, 2) := by decide +kernel
theorem dX11_bought_43 : decode cX11_bought 43 = .ok (.iload 4, 2) := by decide +kernel
theorem dX11_bought_45 : decode cX11_bought 45 = .ok (.bipush 8, 2) := by decide +kernel
theorem dX11_bought_47 : decode cX11_bought 47 = .ok (.if_icmp .ge 82, 3) := by decide +kernel
theorem dX11_bought_50 : decode cX11_bought 50 = .ok (.iconst 0, 1) := by decide +kernel
theorem dX11_bought_51 : decode cX11_bought 51 = .ok (.istore 5, 2) := by decide +kernel
theorem dX11_bought_53 : decode cX11_bought 53 = .ok (.iload 5, 2) := by decide +kernel
theorem dX11_bought_55 : decode cX11_bought 55 = .ok (.iconst 1, 1) := by decide +kernel
theorem dX11_bought_56 : decode cX11_bought 56 = .ok (.aload_n 0, 1) := by decide +kernel
theorem dX11_bought_57 : decode cX11_bought 57 = .ok (.getfield 45, 3) := by decide +kernel
theorem dX11_bought_60 : decode cX11_bought 60 = .ok (.iconst 0, 1) := by decide +kernel
theorem dX11_bought_61 : decode cX11_bought 61 = .ok (.iaload, 1) := by decide +kernel
theorem dX11_bought_62 : decode cX11_bought 62 = .ok (.ishl, 1) := by decide +kernel
theorem dX11_bought_63 : decode cX11_bought 63 = .ok (.if_icmp .ge 60, 3) := by decide +kernel
theorem dX11_bought_66 : decode cX11_bought 66 = .ok (.iload_n 3, 1) := by decide +kernel
theorem dX11_bought_67 : decode cX11_bought 67 = .ok (.iload 4, 2) := by decide +kernel
theorem dX11_bought_69 : decode cX11_bought 69 = .ok (.invokestatic 355, 3) := by decide +kernel
theorem dX11_bought_72 : decode cX11_bought 72 = .ok (.ifCond .ne 51, 3) := by decide +kernel
theorem dX11_bought_75 : decode cX11_bought 75 = .ok (.iload 5, 2) := by decide +kernel
theorem dX11_bought_77 : decode cX11_bought 77 = .ok (.invokestatic 364, 3) := by decide +kernel
theorem dX11_bought_80 : decode cX11_bought 80 = .ok (.iload_n 2, 1) := by decide +kernel
theorem dX11_bought_81 : decode cX11_bought 81 = .ok (.if_icmp .le 6, 3) := by decide +kernel
theorem dX11_bought_84 : decode cX11_bought 84 = .ok (.goto 33, 3) := by decide +kernel
theorem dX11_bought_87 : decode cX11_bought 87 = .ok (.aload_n 0, 1) := by decide +kernel
theorem dX11_bought_88 : decode cX11_bought 88 = .ok (.iload 5, 2) := by decide +kernel
theorem dX11_bought_90 : decode cX11_bought 90 = .ok (.iload 4, 2) := by decide +kernel
theorem dX11_bought_92 : decode cX11_bought 92 = .ok (.invokevirtual 358, 3) := by decide +kernel
theorem dX11_bought_95 : decode cX11_bought 95 = .ok (.pop, 1) := by decide +kernel
theorem dX11_bought_96 : decode cX11_bought 96 = .ok (.iload_n 3, 1) := by decide +kernel
theorem dX11_bought_97 : decode cX11_bought 97 = .ok (.aload_n 0, 1) := by decide +kernel
theorem dX11_bought_98 : decode cX11_bought 98 = .ok (.iload_n 1, 1) := by decide +kernel
theorem dX11_bought_99 : decode cX11_bought 99 = .ok (.invokevirtual 352, 3) := by decide +kernel
theorem dX11_bought_102 : decode cX11_bought 102 = .ok (.iload 4, 2) := by decide +kernel
theorem dX11_bought_104 : decode cX11_bought 104 = .ok (.if_icmp .ne 10, 3) := by decide +kernel
theorem dX11_bought_107 : decode cX11_bought 107 = .ok (.iconst 1, 1) := by decide +kernel
theorem dX11_bought_108 : decode cX11_bought 108 = .ok (.iload 4, 2) := by decide +kernel
theorem dX11_bought_110 : decode cX11_bought 110 = .ok (.ishl, 1) := by decide +kernel
theorem dX11_bought_111 : decode cX11_bought 111 = .ok (.goto 4, 3) := by decide +kernel
theorem dX11_bought_114 : decode cX11_bought 114 = .ok (.iconst 0, 1) := by decide +kernel
theorem dX11_bought_115 : decode cX11_bought 115 = .ok (.ior, 1) := by decide +kernel
theorem dX11_bought_116 : decode cX11_bought 116 = .ok (.istore_n 3, 1) := by decide +kernel
theorem dX11_bought_117 : decode cX11_bought 117 = .ok (.iinc 5 1, 3) := by decide +kernel
theorem dX11_bought_120 : decode cX11_bought 120 = .ok (.goto (-67), 3) := by decide +kernel
theorem dX11_bought_123 : decode cX11_bought 123 = .ok (.iinc 4 1, 3) := by decide +kernel
theorem dX11_bought_126 : decode cX11_bought 126 = .ok (.goto (-83), 3) := by decide +kernel
theorem dX11_bought_129 : decode cX11_bought 129 = .ok (.iload_n 3, 1) := by decide +kernel
theorem dX11_bought_130 : decode cX11_bought 130 = .ok (.ireturn, 1) := by decide +kernel
theorem dX11_swings_0 : decode cX11_swings 0 = .ok (.aload_n 0, 1) := by decide +kernel
theorem dX11_swings_1 : decode cX11_swings 1 = .ok (.getfield 45, 3) := by decide +kernel
theorem dX11_swings_4 : decode cX11_swings 4 = .ok (.iconst 0, 1) := by decide +kernel
theorem dX11_swings_5 : decode cX11_swings 5 = .ok (.iaload, 1) := by decide +kernel
theorem dX11_swings_6 : decode cX11_swings 6 = .ok (.ifCond .eq 39, 3) := by decide +kernel
theorem dX11_swings_9 : decode cX11_swings 9 = .ok (.iload_n 1, 1) := by decide +kernel
theorem dX11_swings_10 : decode cX11_swings 10 = .ok (.invokestatic 346, 3) := by decide +kernel
theorem dX11_swings_13 : decode cX11_swings 13 = .ok (.ifCond .eq 32, 3) := by decide +kernel
theorem dX11_swings_16 : decode cX11_swings 16 = .ok (.aload_n 0, 1) := by decide +kernel
theorem dX11_swings_17 : decode cX11_swings 17 = .ok (.iload_n 2, 1) := by decide +kernel
theorem dX11_swings_18 : decode cX11_swings 18 = .ok (.invokevirtual 257, 3) := by decide +kernel
theorem dX11_swings_21 : decode cX11_swings 21 = .ok (.ifCond .eq 24, 3) := by decide +kernel
theorem dX11_swings_24 : decode cX11_swings 24 = .ok (.iload_n 3, 1) := by decide +kernel
theorem dX11_swings_25 : decode cX11_swings 25 = .ok (.invokestatic 276, 3) := by decide +kernel
theorem dX11_swings_28 : decode cX11_swings 28 = .ok (.ifCond .eq 17, 3) := by decide +kernel
theorem dX11_swings_31 : decode cX11_swings 31 = .ok (.iload 4, 2) := by decide +kernel
theorem dX11_swings_33 : decode cX11_swings 33 = .ok (.invokestatic 276, 3) := by decide +kernel
theorem dX11_swings_36 : decode cX11_swings 36 = .ok (.ifCond .eq 9, 3) := by decide +kernel
theorem dX11_swings_39 : decode cX11_swings 39 = .ok (.iload_n 3, 1) := by decide +kernel
theorem dX11_swings_40 : decode cX11_swings 40 = .ok (.iload 4, 2) := by decide +kernel
theorem dX11_swings_42 : decode cX11_swings 42 = .ok (.if_icmp .ne 5, 3) := by decide +kernel
theorem dX11_swings_45 : decode cX11_swings 45 = .ok (.iconst (-1), 1) := by decide +kernel
theorem dX11_swings_46 : decode cX11_swings 46 = .ok (.ireturn, 1) := by decide +kernel
theorem dX11_swings_47 : decode cX11_swings 47 = .ok (.iconst 0, 1) := by decide +kernel
theorem dX11_swings_48 : decode cX11_swings 48 = .ok (.istore 5, 2) := by decide +kernel
theorem dX11_swings_50 : decode cX11_swings 50 = .ok (.iconst 0, 1) := by decide +kernel
theorem dX11_swings_51 : decode cX11_swings 51 = .ok (.istore 6, 2) := by decide +kernel
theorem dX11_swings_53 : decode cX11_swings 53 = .ok (.iload 6, 2) := by decide +kernel
theorem dX11_swings_55 : decode cX11_swings 55 = .ok (.iconst 1, 1) := by decide +kernel
theorem dX11_swings_56 : decode cX11_swings 56 = .ok (.aload_n 0, 1) := by decide +kernel
theorem dX11_swings_57 : decode cX11_swings 57 = .ok (.getfield 45, 3) := by decide +kernel
theorem dX11_swings_60 : decode cX11_swings 60 = .ok (.iconst 0, 1) := by decide +kernel
theorem dX11_swings_61 : decode cX11_swings 61 = .ok (.iaload, 1) := by decide +kernel
theorem dX11_swings_62 : decode cX11_swings 62 = .ok (.ishl, 1) := by decide +kernel
theorem dX11_swings_63 : decode cX11_swings 63 = .ok (.if_icmp .ge 98, 3) := by decide +kernel
theorem dX11_swings_66 : decode cX11_swings 66 = .ok (.iload 6, 2) := by decide +kernel
theorem dX11_swings_68 : decode cX11_swings 68 = .ok (.iload_n 2, 1) := by decide +kernel
theorem dX11_swings_69 : decode cX11_swings 69 = .ok (.invokestatic 355, 3) := by decide +kernel
theorem dX11_swings_72 : decode cX11_swings 72 = .ok (.ifCond .eq 6, 3) := by decide +kernel
theorem dX11_swings_75 : decode cX11_swings 75 = .ok (.goto 80, 3) := by decide +kernel
theorem dX11_swings_78 : decode cX11_swings 78 = .ok (.iconst 0, 1) := by decide +kernel
theorem dX11_swings_79 : decode cX11_swings 79 = .ok (.istore 7, 2) := by decide +kernel
theorem dX11_swings_81 : decode cX11_swings 81 = .ok (.iload 7, 2) := by decide +kernel
theorem dX11_swings_83 : decode cX11_swings 83 = .ok (.aload_n 0, 1) := by decide +kernel
theorem dX11_swings_84 : decode cX11_swings 84 = .ok (.getfield 45, 3) := by decide +kernel
theorem dX11_swings_87 : decode cX11_swings 87 = .ok (.iconst 0, 1) := by decide +kernel
theorem dX11_swings_88 : decode cX11_swings 88 = .ok (.iaload, 1) := by decide +kernel
theorem dX11_swings_89 : decode cX11_swings 89 = .ok (.if_icmp .ge 32, 3) := by decide +kernel
theorem dX11_swings_92 : decode cX11_swings 92 = .ok (.aload_n 0, 1) := by decide +kernel
theorem dX11_swings_93 : decode cX11_swings 93 = .ok (.getfield 48, 3) := by decide +kernel
theorem dX11_swings_96 : decode cX11_swings 96 = .ok (.iload 7, 2) := by decide +kernel
theorem dX11_swings_98 : decode cX11_swings 98 = .ok (.iload 6, 2) := by decide +kernel
theorem dX11_swings_100 : decode cX11_swings 100 = .ok (.iload 7, 2) := by decide +kernel
theorem dX11_swings_102 : decode cX11_swings 102 = .ok (.invokestatic 355, 3) := by decide +kernel
theorem dX11_swings_105 : decode cX11_swings 105 = .ok (.ifCond .eq 7, 3) := by decide +kernel
theorem dX11_swings_108 : decode cX11_swings 108 = .ok (.iload_n 3, 1) := by decide +kernel
theorem dX11_swings_109 : decode cX11_swings 109 = .ok (.goto 5, 3) := by decide +kernel
theorem dX11_swings_112 : decode cX11_swings 112 = .ok (.iload 4, 2) := by decide +kernel
theorem dX11_swings_114 : decode cX11_swings 114 = .ok (.iastore, 1) := by decide +kernel
theorem dX11_swings_115 : decode cX11_swings 115 = .ok (.iinc 7 1, 3) := by decide +kernel
theorem dX11_swings_118 : decode cX11_swings 118 = .ok (.goto (-37), 3) := by decide +kernel
theorem dX11_swings_121 : decode cX11_swings 121 = .ok (.aload_n 0, 1) := by decide +kernel
theorem dX11_swings_122 : decode cX11_swings 122 = .ok (.iload_n 1, 1) := by decide +kernel
theorem dX11_swings_123 : decode cX11_swings 123 = .ok (.invokevirtual 352, 3) := by decide +kernel
theorem dX11_swings_126 : decode cX11_swings 126 = .ok (.istore 7, 2) := by decide +kernel
theorem dX11_swings_128 : decode cX11_swings 128 = .ok (.aload_n 0, 1) := by decide +kernel
theorem dX11_swings_129 : decode cX11_swings 129 = .ok (.getfield 48, 3) := by decide +kernel
theorem dX11_swings_132 : decode cX11_swings 132 = .ok (.iload_n 2, 1) := by decide +kernel
theorem dX11_swings_133 : decode cX11_swings 133 = .ok (.iload_n 3, 1) := by decide +kernel
theorem dX11_swings_134 : decode cX11_swings 134 = .ok (.iastore, 1) := by decide +kernel
theorem dX11_swings_135 : decode cX11_swings 135 = .ok (.iload 5, 2) := by decide +kernel
theorem dX11_swings_137 : decode cX11_swings 137 = .ok (.aload_n 0, 1) := by decide +kernel
theorem dX11_swings_138 : decode cX11_swings 138 = .ok (.iload_n 1, 1) := by decide +kernel
theorem dX11_swings_139 : decode cX11_swings 139 = .ok (.invokevirtual 352, 3) := by decide +kernel
theorem dX11_swings_142 : decode cX11_swings 142 = .ok (.iload 7, 2) := by decide +kernel
theorem dX11_swings_144 : decode cX11_swings 144 = .ok (.if_icmp .ne 7, 3) := by decide +kernel
theorem dX11_swings_147 : decode cX11_swings 147 = .ok (.iconst 0, 1) := by decide +kernel
theorem dX11_swings_148 : decode cX11_swings 148 = .ok (.goto 4, 3) := by decide +kernel
theorem dX11_swings_151 : decode cX11_swings 151 = .ok (.iconst 1, 1) := by decide +kernel
theorem dX11_swings_152 : decode cX11_swings 152 = .ok (.iadd, 1) := by decide +kernel
theorem dX11_swings_153 : decode cX11_swings 153 = .ok (.istore 5, 2) := by decide +kernel
theorem dX11_swings_155 : decode cX11_swings 155 = .ok (.iinc 6 1, 3) := by decide +kernel
theorem dX11_swings_158 : decode cX11_swings 158 = .ok (.goto (-105), 3) := by decide +kernel
theorem dX11_swings_161 : decode cX11_swings 161 = .ok (.iload 5, 2) := by decide +kernel
theorem dX11_swings_163 : decode cX11_swings 163 = .ok (.ireturn, 1) := by decide +kernel
theorem dX11_explains_0 : decode cX11_explains 0 = .ok (.aload_n 0, 1) := by decide +kernel
theorem dX11_explains_1 : decode cX11_explains 1 = .ok (.iload_n 1, 1) := by decide +kernel
theorem dX11_explains_2 : decode cX11_explains 2 = .ok (.iload_n 3, 1) := by decide +kernel
theorem dX11_explains_3 : decode cX11_explains 3 = .ok (.aload_n 0, 1) := by decide +kernel
theorem dX11_explains_4 : decode cX11_explains 4 = .ok (.iload_n 3, 1) := by decide +kernel
theorem dX11_explains_5 : decode cX11_explains 5 = .ok (.bipush 6, 2) := by decide +kernel
theorem dX11_explains_7 : decode cX11_explains 7 = .ok (.invokevirtual 262, 3) := by decide +kernel
theorem dX11_explains_10 : decode cX11_explains 10 = .ok (.iload 4, 2) := by decide +kernel
theorem dX11_explains_12 : decode cX11_explains 12 = .ok (.iload_n 2, 1) := by decide +kernel
theorem dX11_explains_13 : decode cX11_explains 13 = .ok (.aload_n 0, 1) := by decide +kernel
theorem dX11_explains_14 : decode cX11_explains 14 = .ok (.iload_n 3, 1) := by decide +kernel
theorem dX11_explains_15 : decode cX11_explains 15 = .ok (.iconst 2, 1) := by decide +kernel
theorem dX11_explains_16 : decode cX11_explains 16 = .ok (.invokevirtual 262, 3) := by decide +kernel
theorem dX11_explains_19 : decode cX11_explains 19 = .ok (.iconst (-1), 1) := by decide +kernel
theorem dX11_explains_20 : decode cX11_explains 20 = .ok (.invokevirtual 308, 3) := by decide +kernel
theorem dX11_explains_23 : decode cX11_explains 23 = .ok (.aload_n 0, 1) := by decide +kernel
theorem dX11_explains_24 : decode cX11_explains 24 = .ok (.iload_n 3, 1) := by decide +kernel
theorem dX11_explains_25 : decode cX11_explains 25 = .ok (.iconst 5, 1) := by decide +kernel
theorem dX11_explains_26 : decode cX11_explains 26 = .ok (.invokevirtual 262, 3) := by decide +kernel
theorem dX11_explains_29 : decode cX11_explains 29 = .ok (.if_icmp .ne 7, 3) := by decide +kernel
theorem dX11_explains_32 : decode cX11_explains 32 = .ok (.iconst 1, 1) := by decide +kernel
theorem dX11_explains_33 : decode cX11_explains 33 = .ok (.goto 4, 3) := by decide +kernel
theorem dX11_explains_36 : decode cX11_explains 36 = .ok (.iconst 0, 1) := by decide +kernel
theorem dX11_explains_37 : decode cX11_explains 37 = .ok (.ireturn, 1) := by decide +kernel
theorem dX11_canExplain_0 : decode cX11_canExplain 0 = .ok (.aload_n 0, 1) := by decide +kernel
theorem dX11_canExplain_1 : decode cX11_canExplain 1 = .ok (.getfield 45, 3) := by decide +kernel
theorem dX11_canExplain_4 : decode cX11_canExplain 4 = .ok (.iconst 0, 1) := by decide +kernel
theorem dX11_canExplain_5 : decode cX11_canExplain 5 = .ok (.iaload, 1) := by decide +kernel
theorem dX11_canExplain_6 : decode cX11_canExplain 6 = .ok (.ifCond .le 27, 3) := by decide +kernel
theorem dX11_canExplain_9 : decode cX11_canExplain 9 = .ok (.aload_n 0, 1) := by decide +kernel
theorem dX11_canExplain_10 : decode cX11_canExplain 10 = .ok (.iload_n 1, 1) := by decide +kernel
theorem dX11_canExplain_11 : decode cX11_canExplain 11 = .ok (.invokevirtual 299, 3) := by decide +kernel
theorem dX11_canExplain_14 : decode cX11_canExplain 14 = .ok (.ifCond .eq 19, 3) := by decide +kernel
theorem dX11_canExplain_17 : decode cX11_canExplain 17 = .ok (.iload_n 2, 1) := by decide +kernel
theorem dX11_canExplain_18 : decode cX11_canExplain 18 = .ok (.i2l, 1) := by decide +kernel
theorem dX11_canExplain_19 : decode cX11_canExplain 19 = .ok (.lconst 0, 1) := by decide +kernel
theorem dX11_canExplain_20 : decode cX11_canExplain 20 = .ok (.ldc2_w 302, 3) := by decide +kernel
theorem dX11_canExplain_23 : decode cX11_canExplain 23 = .ok (.invokestatic 109, 3) := by decide +kernel
theorem dX11_canExplain_26 : decode cX11_canExplain 26 = .ok (.ifCond .eq 7, 3) := by decide +kernel
theorem dX11_canExplain_29 : decode cX11_canExplain 29 = .ok (.iconst 1, 1) := by decide +kernel
theorem dX11_canExplain_30 : decode cX11_canExplain 30 = .ok (.goto 4, 3) := by decide +kernel
theorem dX11_canExplain_33 : decode cX11_canExplain 33 = .ok (.iconst 0, 1) := by decide +kernel
theorem dX11_canExplain_34 : decode cX11_canExplain 34 = .ok (.ireturn, 1) := by decide +kernel
theorem dX11_explained_0 : decode cX11_explained 0 = .ok (.aload_n 0, 1) := by decide +kernel
theorem dX11_explained_1 : decode cX11_explained 1 = .ok (.iload_n 1, 1) := by decide +kernel
theorem dX11_explained_2 : decode cX11_explained 2 = .ok (.iload_n 2, 1) := by decide +kernel
theorem dX11_explained_3 : decode cX11_explained 3 = .ok (.invokevirtual 381, 3) := by decide +kernel
theorem dX11_explained_6 : decode cX11_explained 6 = .ok (.ifCond .eq 11, 3) := by decide +kernel
theorem dX11_explained_9 : decode cX11_explained 9 = .ok (.aload_n 0, 1) := by decide +kernel
theorem dX11_explained_10 : decode cX11_explained 10 = .ok (.iload_n 3, 1) := by decide +kernel
theorem dX11_explained_11 : decode cX11_explained 11 = .ok (.invokevirtual 257, 3) := by decide +kernel
theorem dX11_explained_14 : decode cX11_explained 14 = .ok (.ifCond .ne 5, 3) := by decide +kernel
theorem dX11_explained_17 : decode cX11_explained 17 = .ok (.iconst (-1), 1) := by decide +kernel
theorem dX11_explained_18 : decode cX11_explained 18 = .ok (.ireturn, 1) := by decide +kernel
theorem dX11_explained_19 : decode cX11_explained 19 = .ok (.iconst 0, 1) := by decide +kernel
theorem dX11_explained_20 : decode cX11_explained 20 = .ok (.istore 4, 2) := by decide +kernel
theorem dX11_explained_22 : decode cX11_explained 22 = .ok (.iconst 0, 1) := by decide +kernel
theorem dX11_explained_23 : decode cX11_explained 23 = .ok (.istore 5, 2) := by decide +kernel
theorem dX11_explained_25 : decode cX11_explained 25 = .ok (.iload 5, 2) := by decide +kernel
theorem dX11_explained_27 : decode cX11_explained 27 = .ok (.bipush 8, 2) := by decide +kernel
theorem dX11_explained_29 : decode cX11_explained 29 = .ok (.if_icmp .ge 34, 3) := by decide +kernel
theorem dX11_explained_32 : decode cX11_explained 32 = .ok (.iload 4, 2) := by decide +kernel
theorem dX11_explained_34 : decode cX11_explained 34 = .ok (.aload_n 0, 1) := by decide +kernel
theorem dX11_explained_35 : decode cX11_explained 35 = .ok (.iload_n 1, 1) := by decide +kernel
theorem dX11_explained_36 : decode cX11_explained 36 = .ok (.iload_n 2, 1) := by decide +kernel
theorem dX11_explained_37 : decode cX11_explained 37 = .ok (.iload_n 3, 1) := by decide +kernel
theorem dX11_explained_38 : decode cX11_explained 38 = .ok (.iload 5, 2) := by decide +kernel
theorem dX11_explained_40 : decode cX11_explained 40 = .ok (.invokevirtual 384, 3) := by decide +kernel
theorem dX11_explained_43 : decode cX11_explained 43 = .ok (.ifCond .eq 10, 3) := by decide +kernel
theorem dX11_explained_46 : decode cX11_explained 46 = .ok (.iconst 1, 1) := by decide +kernel
theorem dX11_explained_47 : decode cX11_explained 47 = .ok (.iload 5, 2) := by decide +kernel
theorem dX11_explained_49 : decode cX11_explained 49 = .ok (.ishl, 1) := by decide +kernel
theorem dX11_explained_50 : decode cX11_explained 50 = .ok (.goto 4, 3) := by decide +kernel
theorem dX11_explained_53 : decode cX11_explained 53 = .ok (.iconst 0, 1) := by decide +kernel
theorem dX11_explained_54 : decode cX11_explained 54 = .ok (.ior, 1) := by decide +kernel
theorem dX11_explained_55 : decode cX11_explained 55 = .ok (.istore 4, 2) := by decide +kernel
theorem dX11_explained_57 : decode cX11_explained 57 = .ok (.iinc 5 1, 3) := by decide +kernel
theorem dX11_explained_60 : decode cX11_explained 60 = .ok (.goto (-35), 3) := by decide +kernel
theorem dX11_explained_63 : decode cX11_explained 63 = .ok (.iload 4, 2) := by decide +kernel
theorem dX11_explained_65 : decode cX11_explained 65 = .ok (.ireturn, 1) := by decide +kernel
theorem dX11_trueWind_0 : decode cX11_trueWind 0 = .ok (.aload_n 0, 1) := by decide +kernel
theorem dX11_trueWind_1 : decode cX11_trueWind 1 = .ok (.iload_n 1, 1) := by decide +kernel
theorem dX11_trueWind_2 : decode cX11_trueWind 2 = .ok (.iload_n 2, 1) := by decide +kernel
theorem dX11_trueWind_3 : decode cX11_trueWind 3 = .ok (.invokevirtual 381, 3) := by decide +kernel
theorem dX11_trueWind_6 : decode cX11_trueWind 6 = .ok (.ifCond .eq 15, 3) := by decide +kernel
theorem dX11_trueWind_9 : decode cX11_trueWind 9 = .ok (.iload_n 3, 1) := by decide +kernel
theorem dX11_trueWind_10 : decode cX11_trueWind 10 = .ok (.i2l, 1) := by decide +kernel
theorem dX11_trueWind_11 : decode cX11_trueWind 11 = .ok (.lconst 0, 1) := by decide +kernel
theorem dX11_trueWind_12 : decode cX11_trueWind 12 = .ok (.ldc2_w 269, 3) := by decide +kernel
theorem dX11_trueWind_15 : decode cX11_trueWind 15 = .ok (.invokestatic 109, 3) := by decide +kernel
theorem dX11_trueWind_18 : decode cX11_trueWind 18 = .ok (.ifCond .ne 5, 3) := by decide +kernel
theorem dX11_trueWind_21 : decode cX11_trueWind 21 = .ok (.iconst (-1), 1) := by decide +kernel
theorem dX11_trueWind_22 : decode cX11_trueWind 22 = .ok (.ireturn, 1) := by decide +kernel
theorem dX11_trueWind_23 : decode cX11_trueWind 23 = .ok (.iconst 0, 1) := by decide +kernel
theorem dX11_trueWind_24 : decode cX11_trueWind 24 = .ok (.istore 4, 2) := by decide +kernel
theorem dX11_trueWind_26 : decode cX11_trueWind 26 = .ok (.iconst (-1), 1) := by decide +kernel
theorem dX11_trueWind_27 : decode cX11_trueWind 27 = .ok (.istore 5, 2) := by decide +kernel
theorem dX11_trueWind_29 : decode cX11_trueWind 29 = .ok (.iconst 0, 1) := by decide +kernel
theorem dX11_trueWind_30 : decode cX11_trueWind 30 = .ok (.istore 6, 2) := by decide +kernel
theorem dX11_trueWind_32 : decode cX11_trueWind 32 = .ok (.iconst 0, 1) := by decide +kernel
theorem dX11_trueWind_33 : decode cX11_trueWind 33 = .ok (.istore 7, 2) := by decide +kernel
theorem dX11_trueWind_35 : decode cX11_trueWind 35 = .ok (.iload 7, 2) := by decide +kernel
theorem dX11_trueWind_37 : decode cX11_trueWind 37 = .ok (.bipush 8, 2) := by decide +kernel
theorem dX11_trueWind_39 : decode cX11_trueWind 39 = .ok (.if_icmp .ge 94, 3) := by decide +kernel
theorem dX11_trueWind_42 : decode cX11_trueWind 42 = .ok (.iconst 0, 1) := by decide +kernel
theorem dX11_trueWind_43 : decode cX11_trueWind 43 = .ok (.istore 8, 2) := by decide +kernel
theorem dX11_trueWind_45 : decode cX11_trueWind 45 = .ok (.iconst 0, 1) := by decide +kernel
theorem dX11_trueWind_46 : decode cX11_trueWind 46 = .ok (.istore 9, 2) := by decide +kernel
theorem dX11_trueWind_48 : decode cX11_trueWind 48 = .ok (.iload 9, 2) := by decide +kernel
theorem dX11_trueWind_50 : decode cX11_trueWind 50 = .ok (.aload_n 0, 1) := by decide +kernel
theorem dX11_trueWind_51 : decode cX11_trueWind 51 = .ok (.getfield 45, 3) := by decide +kernel
theorem dX11_trueWind_54 : decode cX11_trueWind 54 = .ok (.iconst 0, 1) := by decide +kernel
theorem dX11_trueWind_55 : decode cX11_trueWind 55 = .ok (.iaload, 1) := by decide +kernel
theorem dX11_trueWind_56 : decode cX11_trueWind 56 = .ok (.if_icmp .ge 35, 3) := by decide +kernel
theorem dX11_trueWind_59 : decode cX11_trueWind 59 = .ok (.iload 8, 2) := by decide +kernel
theorem dX11_trueWind_61 : decode cX11_trueWind 61 = .ok (.aload_n 0, 1) := by decide +kernel
theorem dX11_trueWind_62 : decode cX11_trueWind 62 = .ok (.iload_n 1, 1) := by decide +kernel
theorem dX11_trueWind_63 : decode cX11_trueWind 63 = .ok (.iload_n 2, 1) := by decide +kernel
theorem dX11_trueWind_64 : decode cX11_trueWind 64 = .ok (.iload 9, 2) := by decide +kernel
theorem dX11_trueWind_66 : decode cX11_trueWind 66 = .ok (.iload 7, 2) := by decide +kernel
theorem dX11_trueWind_68 : decode cX11_trueWind 68 = .ok (.invokevirtual 384, 3) := by decide +kernel
theorem dX11_trueWind_71 : decode cX11_trueWind 71 = .ok (.ifCond .eq 7, 3) := by decide +kernel
theorem dX11_trueWind_74 : decode cX11_trueWind 74 = .ok (.iconst 0, 1) := by decide +kernel
theorem dX11_trueWind_75 : decode cX11_trueWind 75 = .ok (.goto 7, 3) := by decide +kernel
theorem dX11_trueWind_78 : decode cX11_trueWind 78 = .ok (.iconst 1, 1) := by decide +kernel
theorem dX11_trueWind_79 : decode cX11_trueWind 79 = .ok (.iload 9, 2) := by decide +kernel
theorem dX11_trueWind_81 : decode cX11_trueWind 81 = .ok (.ishl, 1) := by decide +kernel
theorem dX11_trueWind_82 : decode cX11_trueWind 82 = .ok (.ior, 1) := by decide +kernel
theorem dX11_trueWind_83 : decode cX11_trueWind 83 = .ok (.istore 8, 2) := by decide +kernel
theorem dX11_trueWind_85 : decode cX11_trueWind 85 = .ok (.iinc 9 1, 3) := by decide +kernel
theorem dX11_trueWind_88 : decode cX11_trueWind 88 = .ok (.goto (-40), 3) := by decide +kernel
theorem dX11_trueWind_91 : decode cX11_trueWind 91 = .ok (.aload_n 0, 1) := by decide +kernel
theorem dX11_trueWind_92 : decode cX11_trueWind 92 = .ok (.getfield 45, 3) := by decide +kernel
theorem dX11_trueWind_95 : decode cX11_trueWind 95 = .ok (.iconst 0, 1) := by decide +kernel
theorem dX11_trueWind_96 : decode cX11_trueWind 96 = .ok (.iaload, 1) := by decide +kernel
theorem dX11_trueWind_97 : decode cX11_trueWind 97 = .ok (.iload 8, 2) := by decide +kernel
theorem dX11_trueWind_99 : decode cX11_trueWind 99 = .ok (.invokestatic 364, 3) := by decide +kernel
theorem dX11_trueWind_102 : decode cX11_trueWind 102 = .ok (.isub, 1) := by decide +kernel
theorem dX11_trueWind_103 : decode cX11_trueWind 103 = .ok (.istore 9, 2) := by decide +kernel
theorem dX11_trueWind_105 : decode cX11_trueWind 105 = .ok (.iload 9, 2) := by decide +kernel
theorem dX11_trueWind_107 : decode cX11_trueWind 107 = .ok (.iload 5, 2) := by decide +kernel
theorem dX11_trueWind_109 : decode cX11_trueWind 109 = .ok (.if_icmp .gt 6, 3) := by decide +kernel
theorem dX11_trueWind_112 : decode cX11_trueWind 112 = .ok (.goto 15, 3) := by decide +kernel
theorem dX11_trueWind_115 : decode cX11_trueWind 115 = .ok (.iload 7, 2) := by decide +kernel
theorem dX11_trueWind_117 : decode cX11_trueWind 117 = .ok (.istore 4, 2) := by decide +kernel
theorem dX11_trueWind_119 : decode cX11_trueWind 119 = .ok (.iload 9, 2) := by decide +kernel
theorem dX11_trueWind_121 : decode cX11_trueWind 121 = .ok (.istore 5, 2) := by decide +kernel
theorem dX11_trueWind_123 : decode cX11_trueWind 123 = .ok (.iload 8, 2) := by decide +kernel
theorem dX11_trueWind_125 : decode cX11_trueWind 125 = .ok (.istore 6, 2) := by decide +kernel
theorem dX11_trueWind_127 : decode cX11_trueWind 127 = .ok (.iinc 7 1, 3) := by decide +kernel
theorem dX11_trueWind_130 : decode cX11_trueWind 130 = .ok (.goto (-95), 3) := by decide +kernel
theorem dX11_trueWind_133 : decode cX11_trueWind 133 = .ok (.iload_n 3, 1) := by decide +kernel
theorem dX11_trueWind_134 : decode cX11_trueWind 134 = .ok (.ifCond .ne 8, 3) := by decide +kernel
theorem dX11_trueWind_137 : decode cX11_trueWind 137 = .ok (.iload 4, 2) := by decide +kernel
theorem dX11_trueWind_139 : decode cX11_trueWind 139 = .ok (.goto 15, 3) := by decide +kernel
theorem dX11_trueWind_142 : decode cX11_trueWind 142 = .ok (.iload_n 3, 1) := by decide +kernel
theorem dX11_trueWind_143 : decode cX11_trueWind 143 = .ok (.iconst 1, 1) := by decide +kernel
theorem dX11_trueWind_144 : decode cX11_trueWind 144 = .ok (.if_icmp .ne 8, 3) := by decide +kernel
theorem dX11_trueWind_147 : decode cX11_trueWind 147 = .ok (.iload 5, 2) := by decide +kernel
theorem dX11_trueWind_149 : decode cX11_trueWind 149 = .ok (.goto 5, 3) := by decide +kernel
theorem dX11_trueWind_152 : decode cX11_trueWind 152 = .ok (.iload 6, 2) := by decide +kernel
theorem dX11_trueWind_154 : decode cX11_trueWind 154 = .ok (.ireturn, 1) := by decide +kernel
theorem dX11_goes_0 : decode cX11_goes 0 = .ok (.iconst 0, 1) := by decide +kernel
theorem dX11_goes_1 : decode cX11_goes 1 = .ok (.istore 5, 2) := by decide +kernel
theorem dX11_goes_3 : decode cX11_goes 3 = .ok (.iload 5, 2) := by decide +kernel
theorem dX11_goes_5 : decode cX11_goes 5 = .ok (.aload_n 0, 1) := by decide +kernel
theorem dX11_goes_6 : decode cX11_goes 6 = .ok (.getfield 45, 3) := by decide +kernel
theorem dX11_goes_9 : decode cX11_goes 9 = .ok (.iconst 0, 1) := by decide +kernel
theorem dX11_goes_10 : decode cX11_goes 10 = .ok (.iaload, 1) := by decide +kernel
theorem dX11_goes_11 : decode cX11_goes 11 = .ok (.if_icmp .ge 41, 3) := by decide +kernel
theorem dX11_goes_14 : decode cX11_goes 14 = .ok (.aload_n 0, 1) := by decide +kernel
theorem dX11_goes_15 : decode cX11_goes 15 = .ok (.getfield 48, 3) := by decide +kernel
theorem dX11_goes_18 : decode cX11_goes 18 = .ok (.iload 5, 2) := by decide +kernel
theorem dX11_goes_20 : decode cX11_goes 20 = .ok (.aload_n 0, 1) := by decide +kernel
theorem dX11_goes_21 : decode cX11_goes 21 = .ok (.iload_n 1, 1) := by decide +kernel
theorem dX11_goes_22 : decode cX11_goes 22 = .ok (.iload 5, 2) := by decide +kernel
theorem dX11_goes_24 : decode cX11_goes 24 = .ok (.aload_n 0, 1) := by decide +kernel
theorem dX11_goes_25 : decode cX11_goes 25 = .ok (.iload 5, 2) := by decide +kernel
theorem dX11_goes_27 : decode cX11_goes 27 = .ok (.iconst 5, 1) := by decide +kernel
theorem dX11_goes_28 : decode cX11_goes 28 = .ok (.invokevirtual 262, 3) := by decide +kernel
theorem dX11_goes_31 : decode cX11_goes 31 = .ok (.iload_n 2, 1) := by decide +kernel
theorem dX11_goes_32 : decode cX11_goes 32 = .ok (.iload_n 3, 1) := by decide +kernel
theorem dX11_goes_33 : decode cX11_goes 33 = .ok (.aload_n 0, 1) := by decide +kernel
theorem dX11_goes_34 : decode cX11_goes 34 = .ok (.iload 5, 2) := by decide +kernel
theorem dX11_goes_36 : decode cX11_goes 36 = .ok (.iconst 2, 1) := by decide +kernel
theorem dX11_goes_37 : decode cX11_goes 37 = .ok (.invokevirtual 262, 3) := by decide +kernel
theorem dX11_goes_40 : decode cX11_goes 40 = .ok (.iload 4, 2) := by decide +kernel
theorem dX11_goes_42 : decode cX11_goes 42 = .ok (.invokevirtual 308, 3) := by decide +kernel
theorem dX11_goes_45 : decode cX11_goes 45 = .ok (.iastore, 1) := by decide +kernel
theorem dX11_goes_46 : decode cX11_goes 46 = .ok (.iinc 5 1, 3) := by decide +kernel
theorem dX11_goes_49 : decode cX11_goes 49 = .ok (.goto (-46), 3) := by decide +kernel
theorem dX11_goes_52 : decode cX11_goes 52 = .ok (.return_, 1) := by decide +kernel
theorem dX11_after_0 : decode cX11_after 0 = .ok (.aload_n 0, 1) := by decide +kernel
theorem dX11_after_1 : decode cX11_after 1 = .ok (.iload_n 1, 1) := by decide +kernel
theorem dX11_after_2 : decode cX11_after 2 = .ok (.iload_n 2, 1) := by decide +kernel
theorem dX11_after_3 : decode cX11_after 3 = .ok (.iload_n 3, 1) := by decide +kernel
theorem dX11_after_4 : decode cX11_after 4 = .ok (.invokevirtual 304, 3) := by decide +kernel
theorem dX11_after_7 : decode cX11_after 7 = .ok (.ifCond .eq 22, 3) := by decide +kernel
theorem dX11_after_10 : decode cX11_after 10 = .ok (.iload 4, 2) := by decide +kernel
theorem dX11_after_12 : decode cX11_after 12 = .ok (.invokestatic 346, 3) := by decide +kernel
theorem dX11_after_15 : decode cX11_after 15 = .ok (.ifCond .eq 14, 3) := by decide +kernel
theorem dX11_after_18 : decode cX11_after 18 = .ok (.iload 5, 2) := by decide +kernel
theorem dX11_after_20 : decode cX11_after 20 = .ok (.i2l, 1) := by decide +kernel
theorem dX11_after_21 : decode cX11_after 21 = .ok (.lconst 0, 1) := by decide +kernel
theorem dX11_after_22 : decode cX11_after 22 = .ok (.lconst 1, 1) := by decide +kernel
theorem dX11_after_23 : decode cX11_after 23 = .ok (.invokestatic 109, 3) := by decide +kernel
theorem dX11_after_26 : decode cX11_after 26 = .ok (.ifCond .ne 5, 3) := by decide +kernel
theorem dX11_after_29 : decode cX11_after 29 = .ok (.iconst (-1), 1) := by decide +kernel
theorem dX11_after_30 : decode cX11_after 30 = .ok (.ireturn, 1) := by decide +kernel
theorem dX11_after_31 : decode cX11_after 31 = .ok (.aload_n 0, 1) := by decide +kernel
theorem dX11_after_32 : decode cX11_after 32 = .ok (.iload_n 1, 1) := by decide +kernel
theorem dX11_after_33 : decode cX11_after 33 = .ok (.iload_n 2, 1) := by decide +kernel
theorem dX11_after_34 : decode cX11_after 34 = .ok (.iload_n 3, 1) := by decide +kernel
theorem dX11_after_35 : decode cX11_after 35 = .ok (.iconst (-1), 1) := by decide +kernel
theorem dX11_after_36 : decode cX11_after 36 = .ok (.invokevirtual 388, 3) := by decide +kernel
theorem dX11_after_39 : decode cX11_after 39 = .ok (.aload_n 0, 1) := by decide +kernel
theorem dX11_after_40 : decode cX11_after 40 = .ok (.iload 4, 2) := by decide +kernel
theorem dX11_after_42 : decode cX11_after 42 = .ok (.invokevirtual 352, 3) := by decide +kernel
theorem dX11_after_45 : decode cX11_after 45 = .ok (.istore 6, 2) := by decide +kernel
theorem dX11_after_47 : decode cX11_after 47 = .ok (.iload 5, 2) := by decide +kernel
theorem dX11_after_49 : decode cX11_after 49 = .ok (.ifCond .ne 8, 3) := by decide +kernel
theorem dX11_after_52 : decode cX11_after 52 = .ok (.iload 6, 2) := by decide +kernel
theorem dX11_after_54 : decode cX11_after 54 = .ok (.goto 9, 3) := by decide +kernel
theorem dX11_after_57 : decode cX11_after 57 = .ok (.iload 6, 2) := by decide +kernel
theorem dX11_after_59 : decode cX11_after 59 = .ok (.iload_n 2, 1) := by decide +kernel
theorem dX11_after_60 : decode cX11_after 60 = .ok (.invokestatic 293, 3) := by decide +kernel
theorem dX11_after_63 : decode cX11_after 63 = .ok (.ireturn, 1) := by decide +kernel
theorem dX11_felled_0 : decode cX11_felled 0 = .ok (.aload_n 0, 1) := by decide +kernel
theorem dX11_felled_1 : decode cX11_felled 1 = .ok (.iload_n 1, 1) := by decide +kernel
theorem dX11_felled_2 : decode cX11_felled 2 = .ok (.iload_n 2, 1) := by decide +kernel
theorem dX11_felled_3 : decode cX11_felled 3 = .ok (.iload_n 3, 1) := by decide +kernel
theorem dX11_felled_4 : decode cX11_felled 4 = .ok (.invokevirtual 304, 3) := by decide +kernel
theorem dX11_felled_7 : decode cX11_felled 7 = .ok (.ifCond .eq 11, 3) := by decide +kernel
theorem dX11_felled_10 : decode cX11_felled 10 = .ok (.iload 4, 2) := by decide +kernel
theorem dX11_felled_12 : decode cX11_felled 12 = .ok (.invokestatic 346, 3) := by decide +kernel
theorem dX11_felled_15 : decode cX11_felled 15 = .ok (.ifCond .ne 5, 3) := by decide +kernel
theorem dX11_felled_18 : decode cX11_felled 18 = .ok (.iconst (-1), 1) := by decide +kernel
theorem dX11_felled_19 : decode cX11_felled 19 = .ok (.ireturn, 1) := by decide +kernel
theorem dX11_felled_20 : decode cX11_felled 20 = .ok (.aload_n 0, 1) := by decide +kernel
theorem dX11_felled_21 : decode cX11_felled 21 = .ok (.iload_n 1, 1) := by decide +kernel
theorem dX11_felled_22 : decode cX11_felled 22 = .ok (.iload_n 2, 1) := by decide +kernel
theorem dX11_felled_23 : decode cX11_felled 23 = .ok (.iload_n 3, 1) := by decide +kernel
theorem dX11_felled_24 : decode cX11_felled 24 = .ok (.iconst (-1), 1) := by decide +kernel
theorem dX11_felled_25 : decode cX11_felled 25 = .ok (.invokevirtual 388, 3) := by decide +kernel
theorem dX11_felled_28 : decode cX11_felled 28 = .ok (.aload_n 0, 1) := by decide +kernel
theorem dX11_felled_29 : decode cX11_felled 29 = .ok (.iload 4, 2) := by decide +kernel
theorem dX11_felled_31 : decode cX11_felled 31 = .ok (.invokevirtual 352, 3) := by decide +kernel
theorem dX11_felled_34 : decode cX11_felled 34 = .ok (.iload_n 2, 1) := by decide +kernel
theorem dX11_felled_35 : decode cX11_felled 35 = .ok (.if_icmp .ne 6, 3) := by decide +kernel
theorem dX11_felled_38 : decode cX11_felled 38 = .ok (.bipush (-3), 2) := by decide +kernel
theorem dX11_felled_40 : decode cX11_felled 40 = .ok (.ireturn, 1) := by decide +kernel
theorem dX11_felled_41 : decode cX11_felled 41 = .ok (.iconst 0, 1) := by decide +kernel
theorem dX11_felled_42 : decode cX11_felled 42 = .ok (.istore 5, 2) := by decide +kernel
theorem dX11_felled_44 : decode cX11_felled 44 = .ok (.iload 5, 2) := by decide +kernel
theorem dX11_felled_46 : decode cX11_felled 46 = .ok (.aload_n 0, 1) := by decide +kernel
theorem dX11_felled_47 : decode cX11_felled 47 = .ok (.getfield 45, 3) := by decide +kernel
theorem dX11_felled_50 : decode cX11_felled 50 = .ok (.iconst 1, 1) := by decide +kernel
theorem dX11_felled_51 : decode cX11_felled 51 = .ok (.iaload, 1) := by decide +kernel
theorem dX11_felled_52 : decode cX11_felled 52 = .ok (.if_icmp .ge 45, 3) := by decide +kernel
theorem dX11_felled_55 : decode cX11_felled 55 = .ok (.aload_n 0, 1) := by decide +kernel
theorem dX11_felled_56 : decode cX11_felled 56 = .ok (.iload 5, 2) := by decide +kernel
theorem dX11_felled_58 : decode cX11_felled 58 = .ok (.iconst 2, 1) := by decide +kernel
theorem dX11_felled_59 : decode cX11_felled 59 = .ok (.invokevirtual 271, 3) := by decide +kernel
theorem dX11_felled_62 : decode cX11_felled 62 = .ok (.iconst 1, 1) := by decide +kernel
theorem dX11_felled_63 : decode cX11_felled 63 = .ok (.if_icmp .ne 6, 3) := by decide +kernel
theorem dX11_felled_66 : decode cX11_felled 66 = .ok (.goto 25, 3) := by decide +kernel
theorem dX11_felled_69 : decode cX11_felled 69 = .ok (.aload_n 0, 1) := by decide +kernel
theorem dX11_felled_70 : decode cX11_felled 70 = .ok (.iload_n 1, 1) := by decide +kernel
theorem dX11_felled_71 : decode cX11_felled 71 = .ok (.iload_n 2, 1) := by decide +kernel
theorem dX11_felled_72 : decode cX11_felled 72 = .ok (.iload_n 3, 1) := by decide +kernel
theorem dX11_felled_73 : decode cX11_felled 73 = .ok (.iload 5, 2) := by decide +kernel
theorem dX11_felled_75 : decode cX11_felled 75 = .ok (.invokevirtual 388, 3) := by decide +kernel
theorem dX11_felled_78 : decode cX11_felled 78 = .ok (.aload_n 0, 1) := by decide +kernel
theorem dX11_felled_79 : decode cX11_felled 79 = .ok (.iload 4, 2) := by decide +kernel
theorem dX11_felled_81 : decode cX11_felled 81 = .ok (.invokevirtual 352, 3) := by decide +kernel
theorem dX11_felled_84 : decode cX11_felled 84 = .ok (.iload_n 2, 1) := by decide +kernel
theorem dX11_felled_85 : decode cX11_felled 85 = .ok (.if_icmp .ne 6, 3) := by decide +kernel
theorem dX11_felled_88 : decode cX11_felled 88 = .ok (.iload 5, 2) := by decide +kernel
theorem dX11_felled_90 : decode cX11_felled 90 = .ok (.ireturn, 1) := by decide +kernel
theorem dX11_felled_91 : decode cX11_felled 91 = .ok (.iinc 5 1, 3) := by decide +kernel
theorem dX11_felled_94 : decode cX11_felled 94 = .ok (.goto (-50), 3) := by decide +kernel
theorem dX11_felled_97 : decode cX11_felled 97 = .ok (.bipush (-2), 2) := by decide +kernel
theorem dX11_felled_99 : decode cX11_felled 99 = .ok (.ireturn, 1) := by decide +kernel
theorem dX11_oiled_0 : decode cX11_oiled 0 = .ok (.aload_n 0, 1) := by decide +kernel
theorem dX11_oiled_1 : decode cX11_oiled 1 = .ok (.iload_n 1, 1) := by decide +kernel
theorem dX11_oiled_2 : decode cX11_oiled 2 = .ok (.iload_n 2, 1) := by decide +kernel
theorem dX11_oiled_3 : decode cX11_oiled 3 = .ok (.iload_n 3, 1) := by decide +kernel
theorem dX11_oiled_4 : decode cX11_oiled 4 = .ok (.invokevirtual 304, 3) := by decide +kernel
theorem dX11_oiled_7 : decode cX11_oiled 7 = .ok (.ifCond .eq 22, 3) := by decide +kernel
theorem dX11_oiled_10 : decode cX11_oiled 10 = .ok (.iload 4, 2) := by decide +kernel
theorem dX11_oiled_12 : decode cX11_oiled 12 = .ok (.invokestatic 346, 3) := by decide +kernel
theorem dX11_oiled_15 : decode cX11_oiled 15 = .ok (.ifCond .eq 14, 3) := by decide +kernel
theorem dX11_oiled_18 : decode cX11_oiled 18 = .ok (.iload 5, 2) := by decide +kernel
theorem dX11_oiled_20 : decode cX11_oiled 20 = .ok (.i2l, 1) := by decide +kernel
theorem dX11_oiled_21 : decode cX11_oiled 21 = .ok (.lconst 0, 1) := by decide +kernel
theorem dX11_oiled_22 : decode cX11_oiled 22 = .ok (.lconst 1, 1) := by decide +kernel
theorem dX11_oiled_23 : decode cX11_oiled 23 = .ok (.invokestatic 109, 3) := by decide +kernel
theorem dX11_oiled_26 : decode cX11_oiled 26 = .ok (.ifCond .ne 5, 3) := by decide +kernel
theorem dX11_oiled_29 : decode cX11_oiled 29 = .ok (.iconst (-1), 1) := by decide +kernel
theorem dX11_oiled_30 : decode cX11_oiled 30 = .ok (.ireturn, 1) := by decide +kernel
theorem dX11_oiled_31 : decode cX11_oiled 31 = .ok (.iconst 0, 1) := by decide +kernel
theorem dX11_oiled_32 : decode cX11_oiled 32 = .ok (.istore 6, 2) := by decide +kernel
theorem dX11_oiled_34 : decode cX11_oiled 34 = .ok (.iload 6, 2) := by decide +kernel
theorem dX11_oiled_36 : decode cX11_oiled 36 = .ok (.aload_n 0, 1) := by decide +kernel
theorem dX11_oiled_37 : decode cX11_oiled 37 = .ok (.getfield 45, 3) := by decide +kernel
theorem dX11_oiled_40 : decode cX11_oiled 40 = .ok (.iconst 0, 1) := by decide +kernel
theorem dX11_oiled_41 : decode cX11_oiled 41 = .ok (.iaload, 1) := by decide +kernel
theorem dX11_oiled_42 : decode cX11_oiled 42 = .ok (.if_icmp .ge 65, 3) := by decide +kernel
theorem dX11_oiled_45 : decode cX11_oiled 45 = .ok (.aload_n 0, 1) := by decide +kernel
theorem dX11_oiled_46 : decode cX11_oiled 46 = .ok (.getfield 57, 3) := by decide +kernel
theorem dX11_oiled_49 : decode cX11_oiled 49 = .ok (.iload 6, 2) := by decide +kernel
theorem dX11_oiled_51 : decode cX11_oiled 51 = .ok (.aload_n 0, 1) := by decide +kernel
theorem dX11_oiled_52 : decode cX11_oiled 52 = .ok (.iload_n 1, 1) := by decide +kernel
theorem dX11_oiled_53 : decode cX11_oiled 53 = .ok (.iload 6, 2) := by decide +kernel
theorem dX11_oiled_55 : decode cX11_oiled 55 = .ok (.aload_n 0, 1) := by decide +kernel
theorem dX11_oiled_56 : decode cX11_oiled 56 = .ok (.iload 6, 2) := by decide +kernel
theorem dX11_oiled_58 : decode cX11_oiled 58 = .ok (.iconst 5, 1) := by decide +kernel
theorem dX11_oiled_59 : decode cX11_oiled 59 = .ok (.invokevirtual 262, 3) := by decide +kernel
theorem dX11_oiled_62 : decode cX11_oiled 62 = .ok (.iload_n 2, 1) := by decide +kernel
theorem dX11_oiled_63 : decode cX11_oiled 63 = .ok (.iload_n 3, 1) := by decide +kernel
theorem dX11_oiled_64 : decode cX11_oiled 64 = .ok (.aload_n 0, 1) := by decide +kernel
theorem dX11_oiled_65 : decode cX11_oiled 65 = .ok (.iload 6, 2) := by decide +kernel
theorem dX11_oiled_67 : decode cX11_oiled 67 = .ok (.iconst 2, 1) := by decide +kernel
theorem dX11_oiled_68 : decode cX11_oiled 68 = .ok (.invokevirtual 262, 3) := by decide +kernel
theorem dX11_oiled_71 : decode cX11_oiled 71 = .ok (.iconst (-1), 1) := by decide +kernel
theorem dX11_oiled_72 : decode cX11_oiled 72 = .ok (.invokevirtual 308, 3) := by decide +kernel
theorem dX11_oiled_75 : decode cX11_oiled 75 = .ok (.iastore, 1) := by decide +kernel
theorem dX11_oiled_76 : decode cX11_oiled 76 = .ok (.aload_n 0, 1) := by decide +kernel
theorem dX11_oiled_77 : decode cX11_oiled 77 = .ok (.getfield 60, 3) := by decide +kernel
theorem dX11_oiled_80 : decode cX11_oiled 80 = .ok (.iload 6, 2) := by decide +kernel
theorem dX11_oiled_82 : decode cX11_oiled 82 = .ok (.aload_n 0, 1) := by decide +kernel
theorem dX11_oiled_83 : decode cX11_oiled 83 = .ok (.iload_n 1, 1) := by decide +kernel
theorem dX11_oiled_84 : decode cX11_oiled 84 = .ok (.iload 6, 2) := by decide +kernel
theorem dX11_oiled_86 : decode cX11_oiled 86 = .ok (.aload_n 0, 1) := by decide +kernel
theorem dX11_oiled_87 : decode cX11_oiled 87 = .ok (.iload 6, 2) := by decide +kernel
theorem dX11_oiled_89 : decode cX11_oiled 89 = .ok (.iconst 5, 1) := by decide +kernel
theorem dX11_oiled_90 : decode cX11_oiled 90 = .ok (.invokevirtual 262, 3) := by decide +kernel
theorem dX11_oiled_93 : decode cX11_oiled 93 = .ok (.iload_n 2, 1) := by decide +kernel
theorem dX11_oiled_94 : decode cX11_oiled 94 = .ok (.iload_n 3, 1) := by decide +kernel
theorem dX11_oiled_95 : decode cX11_oiled 95 = .ok (.iconst 0, 1) := by decide +kernel
theorem dX11_oiled_96 : decode cX11_oiled 96 = .ok (.iconst (-1), 1) := by decide +kernel
theorem dX11_oiled_97 : decode cX11_oiled 97 = .ok (.invokevirtual 308, 3) := by decide +kernel
theorem dX11_oiled_100 : decode cX11_oiled 100 = .ok (.iastore, 1) := by decide +kernel
theorem dX11_oiled_101 : decode cX11_oiled 101 = .ok (.iinc 6 1, 3) := by decide +kernel
theorem dX11_oiled_104 : decode cX11_oiled 104 = .ok (.goto (-70), 3) := by decide +kernel
theorem dX11_oiled_107 : decode cX11_oiled 107 = .ok (.bipush (-2), 2) := by decide +kernel
theorem dX11_oiled_109 : decode cX11_oiled 109 = .ok (.istore 6, 2) := by decide +kernel
theorem dX11_oiled_111 : decode cX11_oiled 111 = .ok (.bipush (-2), 2) := by decide +kernel
theorem dX11_oiled_113 : decode cX11_oiled 113 = .ok (.istore 7, 2) := by decide +kernel
theorem dX11_oiled_115 : decode cX11_oiled 115 = .ok (.iconst 0, 1) := by decide +kernel
theorem dX11_oiled_116 : decode cX11_oiled 116 = .ok (.istore 8, 2) := by decide +kernel
theorem dX11_oiled_118 : decode cX11_oiled 118 = .ok (.iload 8, 2) := by decide +kernel
theorem dX11_oiled_120 : decode cX11_oiled 120 = .ok (.iconst 1, 1) := by decide +kernel
theorem dX11_oiled_121 : decode cX11_oiled 121 = .ok (.aload_n 0, 1) := by decide +kernel
theorem dX11_oiled_122 : decode cX11_oiled 122 = .ok (.getfield 45, 3) := by decide +kernel
theorem dX11_oiled_125 : decode cX11_oiled 125 = .ok (.iconst 0, 1) := by decide +kernel
theorem dX11_oiled_126 : decode cX11_oiled 126 = .ok (.iaload, 1) := by decide +kernel
theorem dX11_oiled_127 : decode cX11_oiled 127 = .ok (.ishl, 1) := by decide +kernel
theorem dX11_oiled_128 : decode cX11_oiled 128 = .ok (.if_icmp .ge 145, 3) := by decide +kernel
theorem dX11_oiled_131 : decode cX11_oiled 131 = .ok (.iconst 0, 1) := by decide +kernel
theorem dX11_oiled_132 : decode cX11_oiled 132 = .ok (.istore 9, 2) := by decide +kernel
theorem dX11_oiled_134 : decode cX11_oiled 134 = .ok (.iconst 0, 1) := by decide +kernel
theorem dX11_oiled_135 : decode cX11_oiled 135 = .ok (.istore 10, 2) := by decide +kernel
theorem dX11_oiled_137 : decode cX11_oiled 137 = .ok (.iload 10, 2) := by decide +kernel
theorem dX11_oiled_139 : decode cX11_oiled 139 = .ok (.aload_n 0, 1) := by decide +kernel
theorem dX11_oiled_140 : decode cX11_oiled 140 = .ok (.getfield 45, 3) := by decide +kernel
theorem dX11_oiled_143 : decode cX11_oiled 143 = .ok (.iconst 0, 1) := by decide +kernel
theorem dX11_oiled_144 : decode cX11_oiled 144 = .ok (.iaload, 1) := by decide +kernel
theorem dX11_oiled_145 : decode cX11_oiled 145 = .ok (.if_icmp .ge 69, 3) := by decide +kernel
theorem dX11_oiled_148 : decode cX11_oiled 148 = .ok (.aload_n 0, 1) := by decide +kernel
theorem dX11_oiled_149 : decode cX11_oiled 149 = .ok (.getfield 48, 3) := by decide +kernel
theorem dX11_oiled_152 : decode cX11_oiled 152 = .ok (.iload 10, 2) := by decide +kernel
theorem dX11_oiled_154 : decode cX11_oiled 154 = .ok (.iload 8, 2) := by decide +kernel
theorem dX11_oiled_156 : decode cX11_oiled 156 = .ok (.iload 10, 2) := by decide +kernel
theorem dX11_oiled_158 : decode cX11_oiled 158 = .ok (.invokestatic 355, 3) := by decide +kernel
theorem dX11_oiled_161 : decode cX11_oiled 161 = .ok (.ifCond .eq 13, 3) := by decide +kernel
theorem dX11_oiled_164 : decode cX11_oiled 164 = .ok (.aload_n 0, 1) := by decide +kernel
theorem dX11_oiled_165 : decode cX11_oiled 165 = .ok (.getfield 60, 3) := by decide +kernel
theorem dX11_oiled_168 : decode cX11_oiled 168 = .ok (.iload 10, 2) := by decide +kernel
theorem dX11_oiled_170 : decode cX11_oiled 170 = .ok (.iaload, 1) := by decide +kernel
theorem dX11_oiled_171 : decode cX11_oiled 171 = .ok (.goto 10, 3) := by decide +kernel
theorem dX11_oiled_174 : decode cX11_oiled 174 = .ok (.aload_n 0, 1) := by decide +kernel
theorem dX11_oiled_175 : decode cX11_oiled 175 = .ok (.getfield 57, 3) := by decide +kernel
theorem dX11_oiled_178 : decode cX11_oiled 178 = .ok (.iload 10, 2) := by decide +kernel
theorem dX11_oiled_180 : decode cX11_oiled 180 = .ok (.iaload, 1) := by decide +kernel
theorem dX11_oiled_181 : decode cX11_oiled 181 = .ok (.iastore, 1) := by decide +kernel
theorem dX11_oiled_182 : decode cX11_oiled 182 = .ok (.iload 9, 2) := by decide +kernel
theorem dX11_oiled_184 : decode cX11_oiled 184 = .ok (.iload 8, 2) := by decide +kernel
theorem dX11_oiled_186 : decode cX11_oiled 186 = .ok (.iload 10, 2) := by decide +kernel
theorem dX11_oiled_188 : decode cX11_oiled 188 = .ok (.invokestatic 355, 3) := by decide +kernel
theorem dX11_oiled_191 : decode cX11_oiled 191 = .ok (.ifCond .eq 13, 3) := by decide +kernel
theorem dX11_oiled_194 : decode cX11_oiled 194 = .ok (.aload_n 0, 1) := by decide +kernel
theorem dX11_oiled_195 : decode cX11_oiled 195 = .ok (.iload 10, 2) := by decide +kernel
theorem dX11_oiled_197 : decode cX11_oiled 197 = .ok (.iconst 2, 1) := by decide +kernel
theorem dX11_oiled_198 : decode cX11_oiled 198 = .ok (.invokevirtual 262, 3) := by decide +kernel
theorem dX11_oiled_201 : decode cX11_oiled 201 = .ok (.goto 4, 3) := by decide +kernel
theorem dX11_oiled_204 : decode cX11_oiled 204 = .ok (.iconst 0, 1) := by decide +kernel
theorem dX11_oiled_205 : decode cX11_oiled 205 = .ok (.iadd, 1) := by decide +kernel
theorem dX11_oiled_206 : decode cX11_oiled 206 = .ok (.istore 9, 2) := by decide +kernel
theorem dX11_oiled_208 : decode cX11_oiled 208 = .ok (.iinc 10 1, 3) := by decide +kernel
theorem dX11_oiled_211 : decode cX11_oiled 211 = .ok (.goto (-74), 3) := by decide +kernel
theorem dX11_oiled_214 : decode cX11_oiled 214 = .ok (.iload 6, 2) := by decide +kernel
theorem dX11_oiled_216 : decode cX11_oiled 216 = .ok (.ifCond .lt 30, 3) := by decide +kernel
theorem dX11_oiled_219 : decode cX11_oiled 219 = .ok (.iload 9, 2) := by decide +kernel
theorem dX11_oiled_221 : decode cX11_oiled 221 = .ok (.iload 7, 2) := by decide +kernel
theorem dX11_oiled_223 : decode cX11_oiled 223 = .ok (.if_icmp .gt 44, 3) := by decide +kernel
theorem dX11_oiled_226 : decode cX11_oiled 226 = .ok (.iload 9, 2) := by decide +kernel
theorem dX11_oiled_228 : decode cX11_oiled 228 = .ok (.iload 7, 2) := by decide +kernel
theorem dX11_oiled_230 : decode cX11_oiled 230 = .ok (.if_icmp .ne 16, 3) := by decide +kernel
theorem dX11_oiled_233 : decode cX11_oiled 233 = .ok (.iload 8, 2) := by decide +kernel
theorem dX11_oiled_235 : decode cX11_oiled 235 = .ok (.invokestatic 364, 3) := by decide +kernel
theorem dX11_oiled_238 : decode cX11_oiled 238 = .ok (.iload 6, 2) := by decide +kernel
theorem dX11_oiled_240 : decode cX11_oiled 240 = .ok (.invokestatic 364, 3) := by decide +kernel
theorem dX11_oiled_243 : decode cX11_oiled 243 = .ok (.if_icmp .ge 24, 3) := by decide +kernel
theorem dX11_oiled_246 : decode cX11_oiled 246 = .ok (.aload_n 0, 1) := by decide +kernel
theorem dX11_oiled_247 : decode cX11_oiled 247 = .ok (.iload 4, 2) := by decide +kernel
theorem dX11_oiled_249 : decode cX11_oiled 249 = .ok (.invokevirtual 352, 3) := by decide +kernel
theorem dX11_oiled_252 : decode cX11_oiled 252 = .ok (.iload_n 2, 1) := by decide +kernel
theorem dX11_oiled_253 : decode cX11_oiled 253 = .ok (.if_icmp .eq 6, 3) := by decide +kernel
theorem dX11_oiled_256 : decode cX11_oiled 256 = .ok (.goto 11, 3) := by decide +kernel
theorem dX11_oiled_259 : decode cX11_oiled 259 = .ok (.iload 8, 2) := by decide +kernel
theorem dX11_oiled_261 : decode cX11_oiled 261 = .ok (.istore 6, 2) := by decide +kernel
theorem dX11_oiled_263 : decode cX11_oiled 263 = .ok (.iload 9, 2) := by decide +kernel
theorem dX11_oiled_265 : decode cX11_oiled 265 = .ok (.istore 7, 2) := by decide +kernel
theorem dX11_oiled_267 : decode cX11_oiled 267 = .ok (.iinc 8 1, 3) := by decide +kernel
theorem dX11_oiled_270 : decode cX11_oiled 270 = .ok (.goto (-152), 3) := by decide +kernel
theorem dX11_oiled_273 : decode cX11_oiled 273 = .ok (.iload 5, 2) := by decide +kernel
theorem dX11_oiled_275 : decode cX11_oiled 275 = .ok (.ifCond .ne 8, 3) := by decide +kernel
theorem dX11_oiled_278 : decode cX11_oiled 278 = .ok (.iload 7, 2) := by decide +kernel
theorem dX11_oiled_280 : decode cX11_oiled 280 = .ok (.goto 5, 3) := by decide +kernel
theorem dX11_oiled_283 : decode cX11_oiled 283 = .ok (.iload 6, 2) := by decide +kernel
theorem dX11_oiled_285 : decode cX11_oiled 285 = .ok (.ireturn, 1) := by decide +kernel
theorem dX11_bestPoint_0 : decode cX11_bestPoint 0 = .ok (.aload_n 0, 1) := by decide +kernel
theorem dX11_bestPoint_1 : decode cX11_bestPoint 1 = .ok (.getfield 45, 3) := by decide +kernel
theorem dX11_bestPoint_4 : decode cX11_bestPoint 4 = .ok (.iconst 0, 1) := by decide +kernel
theorem dX11_bestPoint_5 : decode cX11_bestPoint 5 = .ok (.iaload, 1) := by decide +kernel
theorem dX11_bestPoint_6 : decode cX11_bestPoint 6 = .ok (.ifCond .eq 45, 3) := by decide +kernel
theorem dX11_bestPoint_9 : decode cX11_bestPoint 9 = .ok (.iload_n 1, 1) := by decide +kernel
theorem dX11_bestPoint_10 : decode cX11_bestPoint 10 = .ok (.invokestatic 346, 3) := by decide +kernel
theorem dX11_bestPoint_13 : decode cX11_bestPoint 13 = .ok (.ifCond .eq 38, 3) := by decide +kernel
theorem dX11_bestPoint_16 : decode cX11_bestPoint 16 = .ok (.iload_n 2, 1) := by decide +kernel
theorem dX11_bestPoint_17 : decode cX11_bestPoint 17 = .ok (.i2l, 1) := by decide +kernel
theorem dX11_bestPoint_18 : decode cX11_bestPoint 18 = .ok (.lconst 0, 1) := by decide +kernel
theorem dX11_bestPoint_19 : decode cX11_bestPoint 19 = .ok (.ldc2_w 274, 3) := by decide +kernel
theorem dX11_bestPoint_22 : decode cX11_bestPoint 22 = .ok (.invokestatic 109, 3) := by decide +kernel
theorem dX11_bestPoint_25 : decode cX11_bestPoint 25 = .ok (.ifCond .eq 26, 3) := by decide +kernel
theorem dX11_bestPoint_28 : decode cX11_bestPoint 28 = .ok (.iload_n 3, 1) := by decide +kernel
theorem dX11_bestPoint_29 : decode cX11_bestPoint 29 = .ok (.i2l, 1) := by decide +kernel
theorem dX11_bestPoint_30 : decode cX11_bestPoint 30 = .ok (.lconst 0, 1) := by decide +kernel
theorem dX11_bestPoint_31 : decode cX11_bestPoint 31 = .ok (.ldc2_w 392, 3) := by decide +kernel
theorem dX11_bestPoint_34 : decode cX11_bestPoint 34 = .ok (.invokestatic 109, 3) := by decide +kernel
theorem dX11_bestPoint_37 : decode cX11_bestPoint 37 = .ok (.ifCond .eq 14, 3) := by decide +kernel
theorem dX11_bestPoint_40 : decode cX11_bestPoint 40 = .ok (.iload 4, 2) := by decide +kernel
theorem dX11_bestPoint_42 : decode cX11_bestPoint 42 = .ok (.i2l, 1) := by decide +kernel
theorem dX11_bestPoint_43 : decode cX11_bestPoint 43 = .ok (.lconst 0, 1) := by decide +kernel
theorem dX11_bestPoint_44 : decode cX11_bestPoint 44 = .ok (.lconst 1, 1) := by decide +kernel
theorem dX11_bestPoint_45 : decode cX11_bestPoint 45 = .ok (.invokestatic 109, 3) := by decide +kernel
theorem dX11_bestPoint_48 : decode cX11_bestPoint 48 = .ok (.ifCond .ne 5, 3) := by decide +kernel
theorem dX11_bestPoint_51 : decode cX11_bestPoint 51 = .ok (.iconst (-1), 1) := by decide +kernel
theorem dX11_bestPoint_52 : decode cX11_bestPoint 52 = .ok (.ireturn, 1) := by decide +kernel
theorem dX11_bestPoint_53 : decode cX11_bestPoint 53 = .ok (.iconst 0, 1) := by decide +kernel
theorem dX11_bestPoint_54 : decode cX11_bestPoint 54 = .ok (.istore 5, 2) := by decide +kernel
theorem dX11_bestPoint_56 : decode cX11_bestPoint 56 = .ok (.iconst 0, 1) := by decide +kernel
theorem dX11_bestPoint_57 : decode cX11_bestPoint 57 = .ok (.istore 6, 2) := by decide +kernel
theorem dX11_bestPoint_59 : decode cX11_bestPoint 59 = .ok (.iload 6, 2) := by decide +kernel
theorem dX11_bestPoint_61 : decode cX11_bestPoint 61 = .ok (.aload_n 0, 1) := by decide +kernel
theorem dX11_bestPoint_62 : decode cX11_bestPoint 62 = .ok (.getfield 45, 3) := by decide +kernel
theorem dX11_bestPoint_65 : decode cX11_bestPoint 65 = .ok (.iconst 0, 1) := by decide +kernel
theorem dX11_bestPoint_66 : decode cX11_bestPoint 66 = .ok (.iaload, 1) := by decide +kernel
theorem dX11_bestPoint_67 : decode cX11_bestPoint 67 = .ok (.if_icmp .ge 33, 3) := by decide +kernel
theorem dX11_bestPoint_70 : decode cX11_bestPoint 70 = .ok (.iload 5, 2) := by decide +kernel
theorem dX11_bestPoint_72 : decode cX11_bestPoint 72 = .ok (.aload_n 0, 1) := by decide +kernel
theorem dX11_bestPoint_73 : decode cX11_bestPoint 73 = .ok (.iload 6, 2) := by decide +kernel
theorem dX11_bestPoint_75 : decode cX11_bestPoint 75 = .ok (.iconst 4, 1) := by decide +kernel
theorem dX11_bestPoint_76 : decode cX11_bestPoint 76 = .ok (.invokevirtual 262, 3) := by decide +kernel
theorem dX11_bestPoint_79 : decode cX11_bestPoint 79 = .ok (.iload_n 2, 1) := by decide +kernel
theorem dX11_bestPoint_80 : decode cX11_bestPoint 80 = .ok (.if_icmp .ne 7, 3) := by decide +kernel
theorem dX11_bestPoint_83 : decode cX11_bestPoint 83 = .ok (.iconst 0, 1) := by decide +kernel
theorem dX11_bestPoint_84 : decode cX11_bestPoint 84 = .ok (.goto 7, 3) := by decide +kernel
theorem dX11_bestPoint_87 : decode cX11_bestPoint 87 = .ok (.iconst 1, 1) := by decide +kernel
theorem dX11_bestPoint_88 : decode cX11_bestPoint 88 = .ok (.iload 6, 2) := by decide +kernel
theorem dX11_bestPoint_90 : decode cX11_bestPoint 90 = .ok (.ishl, 1) := by decide +kernel
theorem dX11_bestPoint_91 : decode cX11_bestPoint 91 = .ok (.ior, 1) := by decide +kernel
theorem dX11_bestPoint_92 : decode cX11_bestPoint 92 = .ok (.istore 5, 2) := by decide +kernel
theorem dX11_bestPoint_94 : decode cX11_bestPoint 94 = .ok (.iinc 6 1, 3) := by decide +kernel
theorem dX11_bestPoint_97 : decode cX11_bestPoint 97 = .ok (.goto (-38), 3) := by decide +kernel
theorem dX11_bestPoint_100 : decode cX11_bestPoint 100 = .ok (.aload_n 0, 1) := by decide +kernel
theorem dX11_bestPoint_101 : decode cX11_bestPoint 101 = .ok (.invokevirtual 349, 3) := by decide +kernel
theorem dX11_bestPoint_104 : decode cX11_bestPoint 104 = .ok (.aload_n 0, 1) := by decide +kernel
theorem dX11_bestPoint_105 : decode cX11_bestPoint 105 = .ok (.invokevirtual 373, 3) := by decide +kernel
theorem dX11_bestPoint_108 : decode cX11_bestPoint 108 = .ok (.aload_n 0, 1) := by decide +kernel
theorem dX11_bestPoint_109 : decode cX11_bestPoint 109 = .ok (.iload_n 1, 1) := by decide +kernel
theorem dX11_bestPoint_110 : decode cX11_bestPoint 110 = .ok (.invokevirtual 352, 3) := by decide +kernel
theorem dX11_bestPoint_113 : decode cX11_bestPoint 113 = .ok (.istore 6, 2) := by decide +kernel
theorem dX11_bestPoint_115 : decode cX11_bestPoint 115 = .ok (.iconst (-1), 1) := by decide +kernel
theorem dX11_bestPoint_116 : decode cX11_bestPoint 116 = .ok (.istore 7, 2) := by decide +kernel
theorem dX11_bestPoint_118 : decode cX11_bestPoint 118 = .ok (.iconst 0, 1) := by decide +kernel
theorem dX11_bestPoint_119 : decode cX11_bestPoint 119 = .ok (.istore 8, 2) := by decide +kernel
theorem dX11_bestPoint_121 : decode cX11_bestPoint 121 = .ok (.iconst 0, 1) := by decide +kernel
theorem dX11_bestPoint_122 : decode cX11_bestPoint 122 = .ok (.istore 9, 2) := by decide +kernel
theorem dX11_bestPoint_124 : decode cX11_bestPoint 124 = .ok (.iload 9, 2) := by decide +kernel
theorem dX11_bestPoint_126 : decode cX11_bestPoint 126 = .ok (.bipush 8, 2) := by decide +kernel
theorem dX11_bestPoint_128 : decode cX11_bestPoint 128 = .ok (.if_icmp .ge 91, 3) := by decide +kernel
theorem dX11_bestPoint_131 : decode cX11_bestPoint 131 = .ok (.aload_n 0, 1) := by decide +kernel
theorem dX11_bestPoint_132 : decode cX11_bestPoint 132 = .ok (.iload_n 1, 1) := by decide +kernel
theorem dX11_bestPoint_133 : decode cX11_bestPoint 133 = .ok (.iload 9, 2) := by decide +kernel
theorem dX11_bestPoint_135 : decode cX11_bestPoint 135 = .ok (.iload 5, 2) := by decide +kernel
theorem dX11_bestPoint_137 : decode cX11_bestPoint 137 = .ok (.invokevirtual 376, 3) := by decide +kernel
theorem dX11_bestPoint_140 : decode cX11_bestPoint 140 = .ok (.istore 10, 2) := by decide +kernel
theorem dX11_bestPoint_142 : decode cX11_bestPoint 142 = .ok (.iload 9, 2) := by decide +kernel
theorem dX11_bestPoint_144 : decode cX11_bestPoint 144 = .ok (.iload 6, 2) := by decide +kernel
theorem dX11_bestPoint_146 : decode cX11_bestPoint 146 = .ok (.if_icmp .eq 19, 3) := by decide +kernel
theorem dX11_bestPoint_149 : decode cX11_bestPoint 149 = .ok (.iload 10, 2) := by decide +kernel
theorem dX11_bestPoint_151 : decode cX11_bestPoint 151 = .ok (.ifCond .lt 62, 3) := by decide +kernel
theorem dX11_bestPoint_154 : decode cX11_bestPoint 154 = .ok (.aload_n 0, 1) := by decide +kernel
theorem dX11_bestPoint_155 : decode cX11_bestPoint 155 = .ok (.getfield 361, 3) := by decide +kernel
theorem dX11_bestPoint_158 : decode cX11_bestPoint 158 = .ok (.iload_n 3, 1) := by decide +kernel
theorem dX11_bestPoint_159 : decode cX11_bestPoint 159 = .ok (.if_icmp .le 6, 3) := by decide +kernel
theorem dX11_bestPoint_162 : decode cX11_bestPoint 162 = .ok (.goto 51, 3) := by decide +kernel
theorem dX11_bestPoint_165 : decode cX11_bestPoint 165 = .ok (.aload_n 0, 1) := by decide +kernel
theorem dX11_bestPoint_166 : decode cX11_bestPoint 166 = .ok (.iload_n 2, 1) := by decide +kernel
theorem dX11_bestPoint_167 : decode cX11_bestPoint 167 = .ok (.iload 9, 2) := by decide +kernel
theorem dX11_bestPoint_169 : decode cX11_bestPoint 169 = .ok (.invokevirtual 394, 3) := by decide +kernel
theorem dX11_bestPoint_172 : decode cX11_bestPoint 172 = .ok (.iload 9, 2) := by decide +kernel
theorem dX11_bestPoint_174 : decode cX11_bestPoint 174 = .ok (.iload 6, 2) := by decide +kernel
theorem dX11_bestPoint_176 : decode cX11_bestPoint 176 = .ok (.if_icmp .ne 7, 3) := by decide +kernel
theorem dX11_bestPoint_179 : decode cX11_bestPoint 179 = .ok (.iconst 0, 1) := by decide +kernel
theorem dX11_bestPoint_180 : decode cX11_bestPoint 180 = .ok (.goto 7, 3) := by decide +kernel
theorem dX11_bestPoint_183 : decode cX11_bestPoint 183 = .ok (.aload_n 0, 1) := by decide +kernel
theorem dX11_bestPoint_184 : decode cX11_bestPoint 184 = .ok (.getfield 361, 3) := by decide +kernel
theorem dX11_bestPoint_187 : decode cX11_bestPoint 187 = .ok (.isub, 1) := by decide +kernel
theorem dX11_bestPoint_188 : decode cX11_bestPoint 188 = .ok (.istore 11, 2) := by decide +kernel
theorem dX11_bestPoint_190 : decode cX11_bestPoint 190 = .ok (.iload 7, 2) := by decide +kernel
theorem dX11_bestPoint_192 : decode cX11_bestPoint 192 = .ok (.ifCond .lt 13, 3) := by decide +kernel
theorem dX11_bestPoint_195 : decode cX11_bestPoint 195 = .ok (.iload 11, 2) := by decide +kernel
theorem dX11_bestPoint_197 : decode cX11_bestPoint 197 = .ok (.iload 8, 2) := by decide +kernel
theorem dX11_bestPoint_199 : decode cX11_bestPoint 199 = .ok (.if_icmp .gt 6, 3) := by decide +kernel
theorem dX11_bestPoint_202 : decode cX11_bestPoint 202 = .ok (.goto 11, 3) := by decide +kernel
theorem dX11_bestPoint_205 : decode cX11_bestPoint 205 = .ok (.iload 9, 2) := by decide +kernel
theorem dX11_bestPoint_207 : decode cX11_bestPoint 207 = .ok (.istore 7, 2) := by decide +kernel
theorem dX11_bestPoint_209 : decode cX11_bestPoint 209 = .ok (.iload 11, 2) := by decide +kernel
theorem dX11_bestPoint_211 : decode cX11_bestPoint 211 = .ok (.istore 8, 2) := by decide +kernel
theorem dX11_bestPoint_213 : decode cX11_bestPoint 213 = .ok (.iinc 9 1, 3) := by decide +kernel
theorem dX11_bestPoint_216 : decode cX11_bestPoint 216 = .ok (.goto (-92), 3) := by decide +kernel
theorem dX11_bestPoint_219 : decode cX11_bestPoint 219 = .ok (.iload 4, 2) := by decide +kernel
theorem dX11_bestPoint_221 : decode cX11_bestPoint 221 = .ok (.ifCond .ne 8, 3) := by decide +kernel
theorem dX11_bestPoint_224 : decode cX11_bestPoint 224 = .ok (.iload 7, 2) := by decide +kernel
theorem dX11_bestPoint_226 : decode cX11_bestPoint 226 = .ok (.goto 5, 3) := by decide +kernel
theorem dX11_bestPoint_229 : decode cX11_bestPoint 229 = .ok (.iload 8, 2) := by decide +kernel
theorem dX11_bestPoint_231 : decode cX11_bestPoint 231 = .ok (.ireturn, 1) := by decide +kernel
theorem dX11_seed_0 : decode cX11_seed 0 = .ok (.iload_n 1, 1) := by decide +kernel
theorem dX11_seed_1 : decode cX11_seed 1 = .ok (.ifCond .ge 5, 3) := by decide +kernel
theorem dX11_seed_4 : decode cX11_seed 4 = .ok (.iconst (-1), 1) := by decide +kernel
theorem dX11_seed_5 : decode cX11_seed 5 = .ok (.ireturn, 1) := by decide +kernel
theorem dX11_seed_6 : decode cX11_seed 6 = .ok (.aload_n 0, 1) := by decide +kernel
theorem dX11_seed_7 : decode cX11_seed 7 = .ok (.getfield 45, 3) := by decide +kernel
theorem dX11_seed_10 : decode cX11_seed 10 = .ok (.iconst 2, 1) := by decide +kernel
theorem dX11_seed_11 : decode cX11_seed 11 = .ok (.iaload, 1) := by decide +kernel
theorem dX11_seed_12 : decode cX11_seed 12 = .ok (.istore_n 2, 1) := by decide +kernel
theorem dX11_seed_13 : decode cX11_seed 13 = .ok (.aload_n 0, 1) := by decide +kernel
theorem dX11_seed_14 : decode cX11_seed 14 = .ok (.getfield 45, 3) := by decide +kernel
theorem dX11_seed_17 : decode cX11_seed 17 = .ok (.iconst 2, 1) := by decide +kernel
theorem dX11_seed_18 : decode cX11_seed 18 = .ok (.iload_n 1, 1) := by decide +kernel
theorem dX11_seed_19 : decode cX11_seed 19 = .ok (.iastore, 1) := by decide +kernel
theorem dX11_seed_20 : decode cX11_seed 20 = .ok (.iload_n 2, 1) := by decide +kernel
theorem dX11_seed_21 : decode cX11_seed 21 = .ok (.ireturn, 1) := by decide +kernel
theorem dX11_lot_0 : decode cX11_lot 0 = .ok (.aload_n 0, 1) := by decide +kernel
theorem dX11_lot_1 : decode cX11_lot 1 = .ok (.getfield 45, 3) := by decide +kernel
theorem dX11_lot_4 : decode cX11_lot 4 = .ok (.iconst 0, 1) := by decide +kernel
theorem dX11_lot_5 : decode cX11_lot 5 = .ok (.iaload, 1) := by decide +kernel
theorem dX11_lot_6 : decode cX11_lot 6 = .ok (.ifCond .ne 5, 3) := by decide +kernel
theorem dX11_lot_9 : decode cX11_lot 9 = .ok (.iconst (-1), 1) := by decide +kernel
theorem dX11_lot_10 : decode cX11_lot 10 = .ok (.ireturn, 1) := by decide +kernel
theorem dX11_lot_11 : decode cX11_lot 11 = .ok (.aload_n 0, 1) := by decide +kernel
theorem dX11_lot_12 : decode cX11_lot 12 = .ok (.getfield 45, 3) := by decide +kernel
theorem dX11_lot_15 : decode cX11_lot 15 = .ok (.iconst 2, 1) := by decide +kernel
theorem dX11_lot_16 : decode cX11_lot 16 = .ok (.aload_n 0, 1) := by decide +kernel
theorem dX11_lot_17 : decode cX11_lot 17 = .ok (.getfield 45, 3) := by decide +kernel
theorem dX11_lot_20 : decode cX11_lot 20 = .ok (.iconst 2, 1) := by decide +kernel
theorem dX11_lot_21 : decode cX11_lot 21 = .ok (.iaload, 1) := by decide +kernel
theorem dX11_lot_22 : decode cX11_lot 22 = .ok (.i2l, 1) := by decide +kernel
theorem dX11_lot_23 : decode cX11_lot 23 = .ok (.ldc2_w 397, 3) := by decide +kernel
theorem dX11_lot_26 : decode cX11_lot 26 = .ok (.lmul, 1) := by decide +kernel
theorem dX11_lot_27 : decode cX11_lot 27 = .ok (.ldc2_w 399, 3) := by decide +kernel
theorem dX11_lot_30 : decode cX11_lot 30 = .ok (.ladd, 1) := by decide +kernel
theorem dX11_lot_31 : decode cX11_lot 31 = .ok (.ldc2_w 401, 3) := by decide +kernel
theorem dX11_lot_34 : decode cX11_lot 34 = .ok (.lrem, 1) := by decide +kernel
theorem dX11_lot_35 : decode cX11_lot 35 = .ok (.l2i, 1) := by decide +kernel
theorem dX11_lot_36 : decode cX11_lot 36 = .ok (.iastore, 1) := by decide +kernel
theorem dX11_lot_37 : decode cX11_lot 37 = .ok (.aload_n 0, 1) := by decide +kernel
theorem dX11_lot_38 : decode cX11_lot 38 = .ok (.aload_n 0, 1) := by decide +kernel
theorem dX11_lot_39 : decode cX11_lot 39 = .ok (.getfield 45, 3) := by decide +kernel
theorem dX11_lot_42 : decode cX11_lot 42 = .ok (.iconst 2, 1) := by decide +kernel
theorem dX11_lot_43 : decode cX11_lot 43 = .ok (.iaload, 1) := by decide +kernel
theorem dX11_lot_44 : decode cX11_lot 44 = .ok (.ldc_w 403, 3) := by decide +kernel
theorem dX11_lot_47 : decode cX11_lot 47 = .ok (.idiv, 1) := by decide +kernel
theorem dX11_lot_48 : decode cX11_lot 48 = .ok (.aload_n 0, 1) := by decide +kernel
theorem dX11_lot_49 : decode cX11_lot 49 = .ok (.getfield 45, 3) := by decide +kernel
theorem dX11_lot_52 : decode cX11_lot 52 = .ok (.iconst 0, 1) := by decide +kernel
theorem dX11_lot_53 : decode cX11_lot 53 = .ok (.iaload, 1) := by decide +kernel
theorem dX11_lot_54 : decode cX11_lot 54 = .ok (.irem, 1) := by decide +kernel
theorem dX11_lot_55 : decode cX11_lot 55 = .ok (.iconst 5, 1) := by decide +kernel
theorem dX11_lot_56 : decode cX11_lot 56 = .ok (.invokevirtual 262, 3) := by decide +kernel
theorem dX11_lot_59 : decode cX11_lot 59 = .ok (.ireturn, 1) := by decide +kernel
theorem dX11_years_0 : decode cX11_years 0 = .ok (.aload_n 0, 1) := by decide +kernel
theorem dX11_years_1 : decode cX11_years 1 = .ok (.iload_n 1, 1) := by decide +kernel
theorem dX11_years_2 : decode cX11_years 2 = .ok (.iconst 0, 1) := by decide +kernel
theorem dX11_years_3 : decode cX11_years 3 = .ok (.iload_n 3, 1) := by decide +kernel
theorem dX11_years_4 : decode cX11_years 4 = .ok (.invokevirtual 304, 3) := by decide +kernel
theorem dX11_years_7 : decode cX11_years 7 = .ok (.ifCond .eq 65, 3) := by decide +kernel
theorem dX11_years_10 : decode cX11_years 10 = .ok (.iload_n 3, 1) := by decide +kernel
theorem dX11_years_11 : decode cX11_years 11 = .ok (.ifCond .eq 61, 3) := by decide +kernel
theorem dX11_years_14 : decode cX11_years 14 = .ok (.iload_n 2, 1) := by decide +kernel
theorem dX11_years_15 : decode cX11_years 15 = .ok (.i2l, 1) := by decide +kernel
theorem dX11_years_16 : decode cX11_years 16 = .ok (.lconst 1, 1) := by decide +kernel
theorem dX11_years_17 : decode cX11_years 17 = .ok (.ldc2_w 404, 3) := by decide +kernel
theorem dX11_years_20 : decode cX11_years 20 = .ok (.invokestatic 109, 3) := by decide +kernel
theorem dX11_years_23 : decode cX11_years 23 = .ok (.ifCond .eq 49, 3) := by decide +kernel
theorem dX11_years_26 : decode cX11_years 26 = .ok (.iload 4, 2) := by decide +kernel
theorem dX11_years_28 : decode cX11_years 28 = .ok (.invokestatic 346, 3) := by decide +kernel
theorem dX11_years_31 : decode cX11_years 31 = .ok (.ifCond .eq 41, 3) := by decide +kernel
theorem dX11_years_34 : decode cX11_years 34 = .ok (.iload 6, 2) := by decide +kernel
theorem dX11_years_36 : decode cX11_years 36 = .ok (.i2l, 1) := by decide +kernel
theorem dX11_years_37 : decode cX11_years 37 = .ok (.lconst 0, 1) := by decide +kernel
theorem dX11_years_38 : decode cX11_years 38 = .ok (.ldc2_w 269, 3) := by decide +kernel
theorem dX11_years_41 : decode cX11_years 41 = .ok (.invokestatic 109, 3) := by decide +kernel
theorem dX11_years_44 : decode cX11_years 44 = .ok (.ifCond .eq 28, 3) := by decide +kernel
theorem dX11_years_47 : decode cX11_years 47 = .ok (.iload 5, 2) := by decide +kernel
theorem dX11_years_49 : decode cX11_years 49 = .ok (.i2l, 1) := by decide +kernel
theorem dX11_years_50 : decode cX11_years 50 = .ok (.lconst 0, 1) := by decide +kernel
theorem dX11_years_51 : decode cX11_years 51 = .ok (.iload 6, 2) := by decide +kernel
theorem dX11_years_53 : decode cX11_years 53 = .ok (.iconst 2, 1) := by decide +kernel
theorem dX11_years_54 : decode cX11_years 54 = .ok (.if_icmp .ne 9, 3) := by decide +kernel
theorem dX11_years_57 : decode cX11_years 57 = .ok (.ldc2_w 274, 3) := by decide +kernel
theorem dX11_years_60 : decode cX11_years 60 = .ok (.goto 6, 3) := by decide +kernel
theorem dX11_years_63 : decode cX11_years 63 = .ok (.ldc2_w 406, 3) := by decide +kernel
theorem dX11_years_66 : decode cX11_years 66 = .ok (.invokestatic 109, 3) := by decide +kernel
theorem dX11_years_69 : decode cX11_years 69 = .ok (.ifCond .ne 5, 3) := by decide +kernel
theorem dX11_years_72 : decode cX11_years 72 = .ok (.iconst (-1), 1) := by decide +kernel
theorem dX11_years_73 : decode cX11_years 73 = .ok (.ireturn, 1) := by decide +kernel
theorem dX11_years_74 : decode cX11_years 74 = .ok (.aload_n 0, 1) := by decide +kernel
theorem dX11_years_75 : decode cX11_years 75 = .ok (.getfield 45, 3) := by decide +kernel
theorem dX11_years_78 : decode cX11_years 78 = .ok (.iconst 2, 1) := by decide +kernel
theorem dX11_years_79 : decode cX11_years 79 = .ok (.iaload, 1) := by decide +kernel
theorem dX11_years_80 : decode cX11_years 80 = .ok (.i2l, 1) := by decide +kernel
theorem dX11_years_81 : decode cX11_years 81 = .ok (.lstore 7, 2) := by decide +kernel
theorem dX11_years_83 : decode cX11_years 83 = .ok (.aload_n 0, 1) := by decide +kernel
theorem dX11_years_84 : decode cX11_years 84 = .ok (.invokevirtual 349, 3) := by decide +kernel
theorem dX11_years_87 : decode cX11_years 87 = .ok (.iconst 0, 1) := by decide +kernel
theorem dX11_years_88 : decode cX11_years 88 = .ok (.istore 9, 2) := by decide +kernel
theorem dX11_years_90 : decode cX11_years 90 = .ok (.iconst 0, 1) := by decide +kernel
theorem dX11_years_91 : decode cX11_years 91 = .ok (.istore 10, 2) := by decide +kernel
theorem dX11_years_93 : decode cX11_years 93 = .ok (.iload 10, 2) := by decide +kernel
theorem dX11_years_95 : decode cX11_years 95 = .ok (.iload_n 2, 1) := by decide +kernel
theorem dX11_years_96 : decode cX11_years 96 = .ok (.if_icmp .ge 142, 3) := by decide +kernel
theorem dX11_years_99 : decode cX11_years 99 = .ok (.lload 7, 2) := by decide +kernel
theorem dX11_years_101 : decode cX11_years 101 = .ok (.ldc2_w 397, 3) := by decide +kernel
theorem dX11_years_104 : decode cX11_years 104 = .ok (.lmul, 1) := by decide +kernel
theorem dX11_years_105 : decode cX11_years 105 = .ok (.ldc2_w 399, 3) := by decide +kernel
theorem dX11_years_108 : decode cX11_years 108 = .ok (.ladd, 1) := by decide +kernel
theorem dX11_years_109 : decode cX11_years 109 = .ok (.ldc2_w 401, 3) := by decide +kernel
theorem dX11_years_112 : decode cX11_years 112 = .ok (.lrem, 1) := by decide +kernel
theorem dX11_years_113 : decode cX11_years 113 = .ok (.lstore 7, 2) := by decide +kernel
theorem dX11_years_115 : decode cX11_years 115 = .ok (.lload 7, 2) := by decide +kernel
theorem dX11_years_117 : decode cX11_years 117 = .ok (.ldc2_w 408, 3) := by decide +kernel
theorem dX11_years_120 : decode cX11_years 120 = .ok (.ldiv, 1) := by decide +kernel
theorem dX11_years_121 : decode cX11_years 121 = .ok (.ldc2_w 410, 3) := by decide +kernel
theorem dX11_years_124 : decode cX11_years 124 = .ok (.lrem, 1) := by decide +kernel
theorem dX11_years_125 : decode cX11_years 125 = .ok (.l2i, 1) := by decide +kernel
theorem dX11_years_126 : decode cX11_years 126 = .ok (.istore 11, 2) := by decide +kernel
theorem dX11_years_128 : decode cX11_years 128 = .ok (.iconst 0, 1) := by decide +kernel
theorem dX11_years_129 : decode cX11_years 129 = .ok (.istore 12, 2) := by decide +kernel
theorem dX11_years_131 : decode cX11_years 131 = .ok (.iload 12, 2) := by decide +kernel
theorem dX11_years_133 : decode cX11_years 133 = .ok (.aload_n 0, 1) := by decide +kernel
theorem dX11_years_134 : decode cX11_years 134 = .ok (.getfield 45, 3) := by decide +kernel
theorem dX11_years_137 : decode cX11_years 137 = .ok (.iconst 0, 1) := by decide +kernel
theorem dX11_years_138 : decode cX11_years 138 = .ok (.iaload, 1) := by decide +kernel
theorem dX11_years_139 : decode cX11_years 139 = .ok (.if_icmp .ge 41, 3) := by decide +kernel
theorem dX11_years_142 : decode cX11_years 142 = .ok (.aload_n 0, 1) := by decide +kernel
theorem dX11_years_143 : decode cX11_years 143 = .ok (.getfield 48, 3) := by decide +kernel
theorem dX11_years_146 : decode cX11_years 146 = .ok (.iload 12, 2) := by decide +kernel
theorem dX11_years_148 : decode cX11_years 148 = .ok (.aload_n 0, 1) := by decide +kernel
theorem dX11_years_149 : decode cX11_years 149 = .ok (.iload_n 1, 1) := by decide +kernel
theorem dX11_years_150 : decode cX11_years 150 = .ok (.iload 12, 2) := by decide +kernel
theorem dX11_years_152 : decode cX11_years 152 = .ok (.aload_n 0, 1) := by decide +kernel
theorem dX11_years_153 : decode cX11_years 153 = .ok (.getfield 48, 3) := by decide +kernel
theorem dX11_years_156 : decode cX11_years 156 = .ok (.iload 12, 2) := by decide +kernel
theorem dX11_years_158 : decode cX11_years 158 = .ok (.iaload, 1) := by decide +kernel
theorem dX11_years_159 : decode cX11_years 159 = .ok (.iload 11, 2) := by decide +kernel
theorem dX11_years_161 : decode cX11_years 161 = .ok (.iload_n 3, 1) := by decide +kernel
theorem dX11_years_162 : decode cX11_years 162 = .ok (.aload_n 0, 1) := by decide +kernel
theorem dX11_years_163 : decode cX11_years 163 = .ok (.iload 12, 2) := by decide +kernel
theorem dX11_years_165 : decode cX11_years 165 = .ok (.iconst 2, 1) := by decide +kernel
theorem dX11_years_166 : decode cX11_years 166 = .ok (.invokevirtual 262, 3) := by decide +kernel
theorem dX11_years_169 : decode cX11_years 169 = .ok (.iconst (-1), 1) := by decide +kernel
theorem dX11_years_170 : decode cX11_years 170 = .ok (.invokevirtual 308, 3) := by decide +kernel
theorem dX11_years_173 : decode cX11_years 173 = .ok (.iastore, 1) := by decide +kernel
theorem dX11_years_174 : decode cX11_years 174 = .ok (.iinc 12 1, 3) := by decide +kernel
theorem dX11_years_177 : decode cX11_years 177 = .ok (.goto (-46), 3) := by decide +kernel
theorem dX11_years_180 : decode cX11_years 180 = .ok (.aload_n 0, 1) := by decide +kernel
theorem dX11_years_181 : decode cX11_years 181 = .ok (.iload 4, 2) := by decide +kernel
theorem dX11_years_183 : decode cX11_years 183 = .ok (.invokevirtual 352, 3) := by decide +kernel
theorem dX11_years_186 : decode cX11_years 186 = .ok (.istore 12, 2) := by decide +kernel
theorem dX11_years_188 : decode cX11_years 188 = .ok (.iload 9, 2) := by decide +kernel
theorem dX11_years_190 : decode cX11_years 190 = .ok (.iload 6, 2) := by decide +kernel
theorem dX11_years_192 : decode cX11_years 192 = .ok (.iconst 2, 1) := by decide +kernel
theorem dX11_years_193 : decode cX11_years 193 = .ok (.if_icmp .ne 14, 3) := by decide +kernel
theorem dX11_years_196 : decode cX11_years 196 = .ok (.aload_n 0, 1) := by decide +kernel
theorem dX11_years_197 : decode cX11_years 197 = .ok (.iload 5, 2) := by decide +kernel
theorem dX11_years_199 : decode cX11_years 199 = .ok (.iload 12, 2) := by decide +kernel
theorem dX11_years_201 : decode cX11_years 201 = .ok (.invokevirtual 394, 3) := by decide +kernel
theorem dX11_years_204 : decode cX11_years 204 = .ok (.goto 25, 3) := by decide +kernel
theorem dX11_years_207 : decode cX11_years 207 = .ok (.iload 12, 2) := by decide +kernel
theorem dX11_years_209 : decode cX11_years 209 = .ok (.iload 6, 2) := by decide +kernel
theorem dX11_years_211 : decode cX11_years 211 = .ok (.ifCond .ne 8, 3) := by decide +kernel
theorem dX11_years_214 : decode cX11_years 214 = .ok (.iload 5, 2) := by decide +kernel
theorem dX11_years_216 : decode cX11_years 216 = .ok (.goto 5, 3) := by decide +kernel
theorem dX11_years_219 : decode cX11_years 219 = .ok (.iload 11, 2) := by decide +kernel
theorem dX11_years_221 : decode cX11_years 221 = .ok (.if_icmp .ne 7, 3) := by decide +kernel
theorem dX11_years_224 : decode cX11_years 224 = .ok (.iconst 1, 1) := by decide +kernel
theorem dX11_years_225 : decode cX11_years 225 = .ok (.goto 4, 3) := by decide +kernel
theorem dX11_years_228 : decode cX11_years 228 = .ok (.iconst 0, 1) := by decide +kernel
theorem dX11_years_229 : decode cX11_years 229 = .ok (.iadd, 1) := by decide +kernel
theorem dX11_years_230 : decode cX11_years 230 = .ok (.istore 9, 2) := by decide +kernel
theorem dX11_years_232 : decode cX11_years 232 = .ok (.iinc 10 1, 3) := by decide +kernel
theorem dX11_years_235 : decode cX11_years 235 = .ok (.goto (-142), 3) := by decide +kernel
theorem dX11_years_238 : decode cX11_years 238 = .ok (.iload 9, 2) := by decide +kernel
theorem dX11_years_240 : decode cX11_years 240 = .ok (.ireturn, 1) := by decide +kernel
theorem dX11_count_0 : decode cX11_count 0 = .ok (.iconst 0, 1) := by decide +kernel
theorem dX11_count_1 : decode cX11_count 1 = .ok (.istore_n 2, 1) := by decide +kernel
theorem dX11_count_2 : decode cX11_count 2 = .ok (.iload_n 1, 1) := by decide +kernel
theorem dX11_count_3 : decode cX11_count 3 = .ok (.tableswitch 123 0 6 #[41, 41, 48, 53, 82, 89, 94], 41) := by decide +kernel
theorem dX11_count_44 : decode cX11_count 44 = .ok (.aload_n 0, 1) := by decide +kernel
theorem dX11_count_45 : decode cX11_count 45 = .ok (.getfield 45, 3) := by decide +kernel
theorem dX11_count_48 : decode cX11_count 48 = .ok (.iload_n 1, 1) := by decide +kernel
theorem dX11_count_49 : decode cX11_count 49 = .ok (.iaload, 1) := by decide +kernel
theorem dX11_count_50 : decode cX11_count 50 = .ok (.ireturn, 1) := by decide +kernel
theorem dX11_count_51 : decode cX11_count 51 = .ok (.aload_n 0, 1) := by decide +kernel
theorem dX11_count_52 : decode cX11_count 52 = .ok (.getfield 236, 3) := by decide +kernel
theorem dX11_count_55 : decode cX11_count 55 = .ok (.ireturn, 1) := by decide +kernel
theorem dX11_count_56 : decode cX11_count 56 = .ok (.iconst 0, 1) := by decide +kernel
theorem dX11_count_57 : decode cX11_count 57 = .ok (.istore_n 3, 1) := by decide +kernel
theorem dX11_count_58 : decode cX11_count 58 = .ok (.iload_n 3, 1) := by decide +kernel
theorem dX11_count_59 : decode cX11_count 59 = .ok (.aload_n 0, 1) := by decide +kernel
theorem dX11_count_60 : decode cX11_count 60 = .ok (.getfield 45, 3) := by decide +kernel
theorem dX11_count_63 : decode cX11_count 63 = .ok (.iconst 1, 1) := by decide +kernel
theorem dX11_count_64 : decode cX11_count 64 = .ok (.iaload, 1) := by decide +kernel
theorem dX11_count_65 : decode cX11_count 65 = .ok (.if_icmp .ge 18, 3) := by decide +kernel
theorem dX11_count_68 : decode cX11_count 68 = .ok (.iload_n 2, 1) := by decide +kernel
theorem dX11_count_69 : decode cX11_count 69 = .ok (.aload_n 0, 1) := by decide +kernel
theorem dX11_count_70 : decode cX11_count 70 = .ok (.iload_n 3, 1) := by decide +kernel
theorem dX11_count_71 : decode cX11_count 71 = .ok (.iconst 2, 1) := by decide +kernel
theorem dX11_count_72 : decode cX11_count 72 = .ok (.invokevirtual 271, 3) := by decide +kernel
theorem dX11_count_75 : decode cX11_count 75 = .ok (.iadd, 1) := by decide +kernel
theorem dX11_count_76 : decode cX11_count 76 = .ok (.istore_n 2, 1) := by decide +kernel
theorem dX11_count_77 : decode cX11_count 77 = .ok (.iinc 3 1, 3) := by decide +kernel
theorem dX11_count_80 : decode cX11_count 80 = .ok (.goto (-22), 3) := by decide +kernel
theorem dX11_count_83 : decode cX11_count 83 = .ok (.iload_n 2, 1) := by decide +kernel
theorem dX11_count_84 : decode cX11_count 84 = .ok (.ireturn, 1) := by decide +kernel
theorem dX11_count_85 : decode cX11_count 85 = .ok (.aload_n 0, 1) := by decide +kernel
theorem dX11_count_86 : decode cX11_count 86 = .ok (.getfield 45, 3) := by decide +kernel
theorem dX11_count_89 : decode cX11_count 89 = .ok (.iconst 2, 1) := by decide +kernel
theorem dX11_count_90 : decode cX11_count 90 = .ok (.iaload, 1) := by decide +kernel
theorem dX11_count_91 : decode cX11_count 91 = .ok (.ireturn, 1) := by decide +kernel
theorem dX11_count_92 : decode cX11_count 92 = .ok (.aload_n 0, 1) := by decide +kernel
theorem dX11_count_93 : decode cX11_count 93 = .ok (.getfield 70, 3) := by decide +kernel
theorem dX11_count_96 : decode cX11_count 96 = .ok (.ireturn, 1) := by decide +kernel
theorem dX11_count_97 : decode cX11_count 97 = .ok (.iconst 0, 1) := by decide +kernel
theorem dX11_count_98 : decode cX11_count 98 = .ok (.istore_n 3, 1) := by decide +kernel
theorem dX11_count_99 : decode cX11_count 99 = .ok (.iload_n 3, 1) := by decide +kernel
theorem dX11_count_100 : decode cX11_count 100 = .ok (.aload_n 0, 1) := by decide +kernel
theorem dX11_count_101 : decode cX11_count 101 = .ok (.getfield 45, 3) := by decide +kernel
theorem dX11_count_104 : decode cX11_count 104 = .ok (.iconst 0, 1) := by decide +kernel
theorem dX11_count_105 : decode cX11_count 105 = .ok (.iaload, 1) := by decide +kernel
theorem dX11_count_106 : decode cX11_count 106 = .ok (.if_icmp .ge 18, 3) := by decide +kernel
theorem dX11_count_109 : decode cX11_count 109 = .ok (.iload_n 2, 1) := by decide +kernel
theorem dX11_count_110 : decode cX11_count 110 = .ok (.aload_n 0, 1) := by decide +kernel
theorem dX11_count_111 : decode cX11_count 111 = .ok (.iload_n 3, 1) := by decide +kernel
theorem dX11_count_112 : decode cX11_count 112 = .ok (.iconst 3, 1) := by decide +kernel
theorem dX11_count_113 : decode cX11_count 113 = .ok (.invokevirtual 262, 3) := by decide +kernel
theorem dX11_count_116 : decode cX11_count 116 = .ok (.iadd, 1) := by decide +kernel
theorem dX11_count_117 : decode cX11_count 117 = .ok (.istore_n 2, 1) := by decide +kernel
theorem dX11_count_118 : decode cX11_count 118 = .ok (.iinc 3 1, 3) := by decide +kernel
theorem dX11_count_121 : decode cX11_count 121 = .ok (.goto (-22), 3) := by decide +kernel
theorem dX11_count_124 : decode cX11_count 124 = .ok (.iload_n 2, 1) := by decide +kernel
theorem dX11_count_125 : decode cX11_count 125 = .ok (.ireturn, 1) := by decide +kernel
theorem dX11_count_126 : decode cX11_count 126 = .ok (.iconst (-1), 1) := by decide +kernel
theorem dX11_count_127 : decode cX11_count 127 = .ok (.ireturn, 1) := by decide +kernel
theorem dX11_image_0 : decode cX11_image 0 = .ok (.iload_n 1, 1) := by decide +kernel
theorem dX11_image_1 : decode cX11_image 1 = .ok (.i2l, 1) := by decide +kernel
theorem dX11_image_2 : decode cX11_image 2 = .ok (.lconst 0, 1) := by decide +kernel
theorem dX11_image_3 : decode cX11_image 3 = .ok (.ldc2_w 274, 3) := by decide +kernel
theorem dX11_image_6 : decode cX11_image 6 = .ok (.invokestatic 109, 3) := by decide +kernel
theorem dX11_image_9 : decode cX11_image 9 = .ok (.ifCond .ne 5, 3) := by decide +kernel
theorem dX11_image_12 : decode cX11_image 12 = .ok (.iconst (-1), 1) := by decide +kernel
theorem dX11_image_13 : decode cX11_image 13 = .ok (.ireturn, 1) := by decide +kernel
theorem dX11_image_14 : decode cX11_image 14 = .ok (.aload_n 0, 1) := by decide +kernel
theorem dX11_image_15 : decode cX11_image 15 = .ok (.getfield 66, 3) := by decide +kernel
theorem dX11_image_18 : decode cX11_image 18 = .ok (.iload_n 1, 1) := by decide +kernel
theorem dX11_image_19 : decode cX11_image 19 = .ok (.iconst 1, 1) := by decide +kernel
theorem dX11_image_20 : decode cX11_image 20 = .ok (.bastore, 1) := by decide +kernel
theorem dX11_image_21 : decode cX11_image 21 = .ok (.iconst 0, 1) := by decide +kernel
theorem dX11_image_22 : decode cX11_image 22 = .ok (.istore_n 2, 1) := by decide +kernel
theorem dX11_image_23 : decode cX11_image 23 = .ok (.iload_n 2, 1) := by decide +kernel
theorem dX11_image_24 : decode cX11_image 24 = .ok (.sipush 156, 3) := by decide +kernel
theorem dX11_image_27 : decode cX11_image 27 = .ok (.if_icmp .ge 27, 3) := by decide +kernel
theorem dX11_image_30 : decode cX11_image 30 = .ok (.aload_n 0, 1) := by decide +kernel
theorem dX11_image_31 : decode cX11_image 31 = .ok (.getfield 63, 3) := by decide +kernel
theorem dX11_image_34 : decode cX11_image 34 = .ok (.sipush 156, 3) := by decide +kernel
theorem dX11_image_37 : decode cX11_image 37 = .ok (.iload_n 1, 1) := by decide +kernel
theorem dX11_image_38 : decode cX11_image 38 = .ok (.imul, 1) := by decide +kernel
theorem dX11_image_39 : decode cX11_image 39 = .ok (.iload_n 2, 1) := by decide +kernel
theorem dX11_image_40 : decode cX11_image 40 = .ok (.iadd, 1) := by decide +kernel
theorem dX11_image_41 : decode cX11_image 41 = .ok (.aload_n 0, 1) := by decide +kernel
theorem dX11_image_42 : decode cX11_image 42 = .ok (.getfield 45, 3) := by decide +kernel
theorem dX11_image_45 : decode cX11_image 45 = .ok (.iload_n 2, 1) := by decide +kernel
theorem dX11_image_46 : decode cX11_image 46 = .ok (.iaload, 1) := by decide +kernel
theorem dX11_image_47 : decode cX11_image 47 = .ok (.iastore, 1) := by decide +kernel
theorem dX11_image_48 : decode cX11_image 48 = .ok (.iinc 2 1, 3) := by decide +kernel
theorem dX11_image_51 : decode cX11_image 51 = .ok (.goto (-28), 3) := by decide +kernel
theorem dX11_image_54 : decode cX11_image 54 = .ok (.aload_n 0, 1) := by decide +kernel
theorem dX11_image_55 : decode cX11_image 55 = .ok (.getfield 45, 3) := by decide +kernel
theorem dX11_image_58 : decode cX11_image 58 = .ok (.iconst 0, 1) := by decide +kernel
theorem dX11_image_59 : decode cX11_image 59 = .ok (.iaload, 1) := by decide +kernel
theorem dX11_image_60 : decode cX11_image 60 = .ok (.ireturn, 1) := by decide +kernel
theorem dX11_back_0 : decode cX11_back 0 = .ok (.iload_n 1, 1) := by decide +kernel
theorem dX11_back_1 : decode cX11_back 1 = .ok (.i2l, 1) := by decide +kernel
theorem dX11_back_2 : decode cX11_back 2 = .ok (.lconst 0, 1) := by decide +kernel
theorem dX11_back_3 : decode cX11_back 3 = .ok (.ldc2_w 274, 3) := by decide +kernel
theorem dX11_back_6 : decode cX11_back 6 = .ok (.invokestatic 109, 3) := by decide +kernel
theorem dX11_back_9 : decode cX11_back 9 = .ok (.ifCond .eq 12, 3) := by decide +kernel
theorem dX11_back_12 : decode cX11_back 12 = .ok (.aload_n 0, 1) := by decide +kernel
theorem dX11_back_13 : decode cX11_back 13 = .ok (.getfield 66, 3) := by decide +kernel
theorem dX11_back_16 : decode cX11_back 16 = .ok (.iload_n 1, 1) := by decide +kernel
theorem dX11_back_17 : decode cX11_back 17 = .ok (.baload, 1) := by decide +kernel
theorem dX11_back_18 : decode cX11_back 18 = .ok (.ifCond .ne 5, 3) := by decide +kernel
theorem dX11_back_21 : decode cX11_back 21 = .ok (.iconst (-1), 1) := by decide +kernel
theorem dX11_back_22 : decode cX11_back 22 = .ok (.ireturn, 1) := by decide +kernel
theorem dX11_back_23 : decode cX11_back 23 = .ok (.iconst 0, 1) := by decide +kernel
theorem dX11_back_24 : decode cX11_back 24 = .ok (.istore_n 2, 1) := by decide +kernel
theorem dX11_back_25 : decode cX11_back 25 = .ok (.iload_n 2, 1) := by decide +kernel
theorem dX11_back_26 : decode cX11_back 26 = .ok (.sipush 156, 3) := by decide +kernel
theorem dX11_back_29 : decode cX11_back 29 = .ok (.if_icmp .ge 27, 3) := by decide +kernel
theorem dX11_back_32 : decode cX11_back 32 = .ok (.aload_n 0, 1) := by decide +kernel
theorem dX11_back_33 : decode cX11_back 33 = .ok (.getfield 45, 3) := by decide +kernel
theorem dX11_back_36 : decode cX11_back 36 = .ok (.iload_n 2, 1) := by decide +kernel
theorem dX11_back_37 : decode cX11_back 37 = .ok (.aload_n 0, 1) := by decide +kernel
theorem dX11_back_38 : decode cX11_back 38 = .ok (.getfield 63, 3) := by decide +kernel
theorem dX11_back_41 : decode cX11_back 41 = .ok (.sipush 156, 3) := by decide +kernel
theorem dX11_back_44 : decode cX11_back 44 = .ok (.iload_n 1, 1) := by decide +kernel
theorem dX11_back_45 : decode cX11_back 45 = .ok (.imul, 1) := by decide +kernel
theorem dX11_back_46 : decode cX11_back 46 = .ok (.iload_n 2, 1) := by decide +kernel
theorem dX11_back_47 : decode cX11_back 47 = .ok (.iadd, 1) := by decide +kernel
theorem dX11_back_48 : decode cX11_back 48 = .ok (.iaload, 1) := by decide +kernel
theorem dX11_back_49 : decode cX11_back 49 = .ok (.iastore, 1) := by decide +kernel
theorem dX11_back_50 : decode cX11_back 50 = .ok (.iinc 2 1, 3) := by decide +kernel
theorem dX11_back_53 : decode cX11_back 53 = .ok (.goto (-28), 3) := by decide +kernel
theorem dX11_back_56 : decode cX11_back 56 = .ok (.aload_n 0, 1) := by decide +kernel
theorem dX11_back_57 : decode cX11_back 57 = .ok (.getfield 45, 3) := by decide +kernel
theorem dX11_back_60 : decode cX11_back 60 = .ok (.iconst 0, 1) := by decide +kernel
theorem dX11_back_61 : decode cX11_back 61 = .ok (.iaload, 1) := by decide +kernel
theorem dX11_back_62 : decode cX11_back 62 = .ok (.ireturn, 1) := by decide +kernel
theorem dJ6_bitCount_0f7a4_0 : decode cJ6_bitCount_0f7a4 0 = .ok (.iload_n 0, 1) := by decide +kernel
theorem dJ6_bitCount_0f7a4_1 : decode cJ6_bitCount_0f7a4 1 = .ok (.iload_n 0, 1) := by decide +kernel
theorem dJ6_bitCount_0f7a4_2 : decode cJ6_bitCount_0f7a4 2 = .ok (.iconst 1, 1) := by decide +kernel
theorem dJ6_bitCount_0f7a4_3 : decode cJ6_bitCount_0f7a4 3 = .ok (.iushr, 1) := by decide +kernel
theorem dJ6_bitCount_0f7a4_4 : decode cJ6_bitCount_0f7a4 4 = .ok (.ldc_w 265, 3) := by decide +kernel
theorem dJ6_bitCount_0f7a4_7 : decode cJ6_bitCount_0f7a4 7 = .ok (.iand, 1) := by decide +kernel
theorem dJ6_bitCount_0f7a4_8 : decode cJ6_bitCount_0f7a4 8 = .ok (.isub, 1) := by decide +kernel
theorem dJ6_bitCount_0f7a4_9 : decode cJ6_bitCount_0f7a4 9 = .ok (.istore_n 0, 1) := by decide +kernel
theorem dJ6_bitCount_0f7a4_10 : decode cJ6_bitCount_0f7a4 10 = .ok (.iload_n 0, 1) := by decide +kernel
theorem dJ6_bitCount_0f7a4_11 : decode cJ6_bitCount_0f7a4 11 = .ok (.ldc_w 266, 3) := by decide +kernel
theorem dJ6_bitCount_0f7a4_14 : decode cJ6_bitCount_0f7a4 14 = .ok (.iand, 1) := by decide +kernel
theorem dJ6_bitCount_0f7a4_15 : decode cJ6_bitCount_0f7a4 15 = .ok (.iload_n 0, 1) := by decide +kernel
theorem dJ6_bitCount_0f7a4_16 : decode cJ6_bitCount_0f7a4 16 = .ok (.iconst 2, 1) := by decide +kernel
theorem dJ6_bitCount_0f7a4_17 : decode cJ6_bitCount_0f7a4 17 = .ok (.iushr, 1) := by decide +kernel
theorem dJ6_bitCount_0f7a4_18 : decode cJ6_bitCount_0f7a4 18 = .ok (.ldc_w 266, 3) := by decide +kernel
theorem dJ6_bitCount_0f7a4_21 : decode cJ6_bitCount_0f7a4 21 = .ok (.iand, 1) := by decide +kernel
theorem dJ6_bitCount_0f7a4_22 : decode cJ6_bitCount_0f7a4 22 = .ok (.iadd, 1) := by decide +kernel
theorem dJ6_bitCount_0f7a4_23 : decode cJ6_bitCount_0f7a4 23 = .ok (.istore_n 0, 1) := by decide +kernel
theorem dJ6_bitCount_0f7a4_24 : decode cJ6_bitCount_0f7a4 24 = .ok (.iload_n 0, 1) := by decide +kernel
theorem dJ6_bitCount_0f7a4_25 : decode cJ6_bitCount_0f7a4 25 = .ok (.iload_n 0, 1) := by decide +kernel
theorem dJ6_bitCount_0f7a4_26 : decode cJ6_bitCount_0f7a4 26 = .ok (.iconst 4, 1) := by decide +kernel
theorem dJ6_bitCount_0f7a4_27 : decode cJ6_bitCount_0f7a4 27 = .ok (.iushr, 1) := by decide +kernel
theorem dJ6_bitCount_0f7a4_28 : decode cJ6_bitCount_0f7a4 28 = .ok (.iadd, 1) := by decide +kernel
theorem dJ6_bitCount_0f7a4_29 : decode cJ6_bitCount_0f7a4 29 = .ok (.ldc_w 267, 3) := by decide +kernel
theorem dJ6_bitCount_0f7a4_32 : decode cJ6_bitCount_0f7a4 32 = .ok (.iand, 1) := by decide +kernel
theorem dJ6_bitCount_0f7a4_33 : decode cJ6_bitCount_0f7a4 33 = .ok (.istore_n 0, 1) := by decide +kernel
theorem dJ6_bitCount_0f7a4_34 : decode cJ6_bitCount_0f7a4 34 = .ok (.iload_n 0, 1) := by decide +kernel
theorem dJ6_bitCount_0f7a4_35 : decode cJ6_bitCount_0f7a4 35 = .ok (.iload_n 0, 1) := by decide +kernel
theorem dJ6_bitCount_0f7a4_36 : decode cJ6_bitCount_0f7a4 36 = .ok (.bipush 8, 2) := by decide +kernel
theorem dJ6_bitCount_0f7a4_38 : decode cJ6_bitCount_0f7a4 38 = .ok (.iushr, 1) := by decide +kernel
theorem dJ6_bitCount_0f7a4_39 : decode cJ6_bitCount_0f7a4 39 = .ok (.iadd, 1) := by decide +kernel
theorem dJ6_bitCount_0f7a4_40 : decode cJ6_bitCount_0f7a4 40 = .ok (.istore_n 0, 1) := by decide +kernel
theorem dJ6_bitCount_0f7a4_41 : decode cJ6_bitCount_0f7a4 41 = .ok (.iload_n 0, 1) := by decide +kernel
theorem dJ6_bitCount_0f7a4_42 : decode cJ6_bitCount_0f7a4 42 = .ok (.iload_n 0, 1) := by decide +kernel
theorem dJ6_bitCount_0f7a4_43 : decode cJ6_bitCount_0f7a4 43 = .ok (.bipush 16, 2) := by decide +kernel
theorem dJ6_bitCount_0f7a4_45 : decode cJ6_bitCount_0f7a4 45 = .ok (.iushr, 1) := by decide +kernel
theorem dJ6_bitCount_0f7a4_46 : decode cJ6_bitCount_0f7a4 46 = .ok (.iadd, 1) := by decide +kernel
theorem dJ6_bitCount_0f7a4_47 : decode cJ6_bitCount_0f7a4 47 = .ok (.istore_n 0, 1) := by decide +kernel
theorem dJ6_bitCount_0f7a4_48 : decode cJ6_bitCount_0f7a4 48 = .ok (.iload_n 0, 1) := by decide +kernel
theorem dJ6_bitCount_0f7a4_49 : decode cJ6_bitCount_0f7a4 49 = .ok (.bipush 63, 2) := by decide +kernel
theorem dJ6_bitCount_0f7a4_51 : decode cJ6_bitCount_0f7a4 51 = .ok (.iand, 1) := by decide +kernel
theorem dJ6_bitCount_0f7a4_52 : decode cJ6_bitCount_0f7a4 52 = .ok (.ireturn, 1) := by decide +kernel
theorem dJ9_max_f86c9_0 : decode cJ9_max_f86c9 0 = .ok (.lload_n 0, 1) := by decide +kernel
theorem dJ9_max_f86c9_1 : decode cJ9_max_f86c9 1 = .ok (.lload_n 2, 1) := by decide +kernel
theorem dJ9_max_f86c9_2 : decode cJ9_max_f86c9 2 = .ok (.lcmp, 1) := by decide +kernel
theorem dJ9_max_f86c9_3 : decode cJ9_max_f86c9 3 = .ok (.ifCond .lt 7, 3) := by decide +kernel
theorem dJ9_max_f86c9_6 : decode cJ9_max_f86c9 6 = .ok (.lload_n 0, 1) := by decide +kernel
theorem dJ9_max_f86c9_7 : decode cJ9_max_f86c9 7 = .ok (.goto 4, 3) := by decide +kernel
theorem dJ9_max_f86c9_10 : decode cJ9_max_f86c9 10 = .ok (.lload_n 2, 1) := by decide +kernel
theorem dJ9_max_f86c9_11 : decode cJ9_max_f86c9 11 = .ok (.lreturn, 1) := by decide +kernel
theorem dJ9_min_7cf53_0 : decode cJ9_min_7cf53 0 = .ok (.iload_n 0, 1) := by decide +kernel
theorem dJ9_min_7cf53_1 : decode cJ9_min_7cf53 1 = .ok (.iload_n 1, 1) := by decide +kernel
theorem dJ9_min_7cf53_2 : decode cJ9_min_7cf53 2 = .ok (.if_icmp .gt 7, 3) := by decide +kernel
theorem dJ9_min_7cf53_5 : decode cJ9_min_7cf53 5 = .ok (.iload_n 0, 1) := by decide +kernel
theorem dJ9_min_7cf53_6 : decode cJ9_min_7cf53 6 = .ok (.goto 4, 3) := by decide +kernel
theorem dJ9_min_7cf53_9 : decode cJ9_min_7cf53 9 = .ok (.iload_n 1, 1) := by decide +kernel
theorem dJ9_min_7cf53_10 : decode cJ9_min_7cf53 10 = .ok (.ireturn, 1) := by decide +kernel
theorem dJ9_min_f86c9_0 : decode cJ9_min_f86c9 0 = .ok (.lload_n 0, 1) := by decide +kernel
theorem dJ9_min_f86c9_1 : decode cJ9_min_f86c9 1 = .ok (.lload_n 2, 1) := by decide +kernel
theorem dJ9_min_f86c9_2 : decode cJ9_min_f86c9 2 = .ok (.lcmp, 1) := by decide +kernel
theorem dJ9_min_f86c9_3 : decode cJ9_min_f86c9 3 = .ok (.ifCond .gt 7, 3) := by decide +kernel
theorem dJ9_min_f86c9_6 : decode cJ9_min_f86c9 6 = .ok (.lload_n 0, 1) := by decide +kernel
theorem dJ9_min_f86c9_7 : decode cJ9_min_f86c9 7 = .ok (.goto 4, 3) := by decide +kernel
theorem dJ9_min_f86c9_10 : decode cJ9_min_f86c9 10 = .ok (.lload_n 2, 1) := by decide +kernel
theorem dJ9_min_f86c9_11 : decode cJ9_min_f86c9 11 = .ok (.lreturn, 1) := by decide +kernel
theorem dJ0_length_8abf5_0 : decode cJ0_length_8abf5 0 = .ok (.aload_n 0, 1) := by decide +kernel
theorem dJ0_length_8abf5_1 : decode cJ0_length_8abf5 1 = .ok (.getfield 9, 3) := by decide +kernel
theorem dJ0_length_8abf5_4 : decode cJ0_length_8abf5 4 = .ok (.arraylength, 1) := by decide +kernel
theorem dJ0_length_8abf5_5 : decode cJ0_length_8abf5 5 = .ok (.aload_n 0, 1) := by decide +kernel
theorem dJ0_length_8abf5_6 : decode cJ0_length_8abf5 6 = .ok (.invokevirtual 335, 3) := by decide +kernel
theorem dJ0_length_8abf5_9 : decode cJ0_length_8abf5 9 = .ok (.ishr, 1) := by decide +kernel
theorem dJ0_length_8abf5_10 : decode cJ0_length_8abf5 10 = .ok (.ireturn, 1) := by decide +kernel
theorem dJ0_charAt_5068e_0 : decode cJ0_charAt_5068e 0 = .ok (.aload_n 0, 1) := by decide +kernel
theorem dJ0_charAt_5068e_1 : decode cJ0_charAt_5068e 1 = .ok (.invokevirtual 492, 3) := by decide +kernel
theorem dJ0_charAt_5068e_4 : decode cJ0_charAt_5068e 4 = .ok (.ifCond .eq 12, 3) := by decide +kernel
theorem dJ0_charAt_5068e_7 : decode cJ0_charAt_5068e 7 = .ok (.aload_n 0, 1) := by decide +kernel
theorem dJ0_charAt_5068e_8 : decode cJ0_charAt_5068e 8 = .ok (.getfield 9, 3) := by decide +kernel
theorem dJ0_charAt_5068e_11 : decode cJ0_charAt_5068e 11 = .ok (.iload_n 1, 1) := by decide +kernel
theorem dJ0_charAt_5068e_12 : decode cJ0_charAt_5068e 12 = .ok (.invokestatic 495, 3) := by decide +kernel
theorem dJ0_charAt_5068e_15 : decode cJ0_charAt_5068e 15 = .ok (.ireturn, 1) := by decide +kernel
theorem dJ0_charAt_5068e_16 : decode cJ0_charAt_5068e 16 = .ok (.aload_n 0, 1) := by decide +kernel
theorem dJ0_charAt_5068e_17 : decode cJ0_charAt_5068e 17 = .ok (.getfield 9, 3) := by decide +kernel
theorem dJ0_charAt_5068e_20 : decode cJ0_charAt_5068e 20 = .ok (.iload_n 1, 1) := by decide +kernel
theorem dJ0_charAt_5068e_21 : decode cJ0_charAt_5068e 21 = .ok (.invokestatic 498, 3) := by decide +kernel
theorem dJ0_charAt_5068e_24 : decode cJ0_charAt_5068e 24 = .ok (.ireturn, 1) := by decide +kernel
theorem dJ0_coder_7d493_0 : decode cJ0_coder_7d493 0 = .ok (.getstatic 38, 3) := by decide +kernel
theorem dJ0_coder_7d493_3 : decode cJ0_coder_7d493 3 = .ok (.ifCond .eq 10, 3) := by decide +kernel
theorem dJ0_coder_7d493_6 : decode cJ0_coder_7d493 6 = .ok (.aload_n 0, 1) := by decide +kernel
theorem dJ0_coder_7d493_7 : decode cJ0_coder_7d493 7 = .ok (.getfield 15, 3) := by decide +kernel
theorem dJ0_coder_7d493_10 : decode cJ0_coder_7d493 10 = .ok (.goto 4, 3) := by decide +kernel
theorem dJ0_coder_7d493_13 : decode cJ0_coder_7d493 13 = .ok (.iconst 1, 1) := by decide +kernel
theorem dJ0_coder_7d493_14 : decode cJ0_coder_7d493 14 = .ok (.ireturn, 1) := by decide +kernel
theorem dJ0_isLatin1_aae02_0 : decode cJ0_isLatin1_aae02 0 = .ok (.getstatic 38, 3) := by decide +kernel
theorem dJ0_isLatin1_aae02_3 : decode cJ0_isLatin1_aae02 3 = .ok (.ifCond .eq 14, 3) := by decide +kernel
theorem dJ0_isLatin1_aae02_6 : decode cJ0_isLatin1_aae02 6 = .ok (.aload_n 0, 1) := by decide +kernel
theorem dJ0_isLatin1_aae02_7 : decode cJ0_isLatin1_aae02 7 = .ok (.getfield 15, 3) := by decide +kernel
theorem dJ0_isLatin1_aae02_10 : decode cJ0_isLatin1_aae02 10 = .ok (.ifCond .ne 7, 3) := by decide +kernel
theorem dJ0_isLatin1_aae02_13 : decode cJ0_isLatin1_aae02 13 = .ok (.iconst 1, 1) := by decide +kernel
theorem dJ0_isLatin1_aae02_14 : decode cJ0_isLatin1_aae02 14 = .ok (.goto 4, 3) := by decide +kernel
theorem dJ0_isLatin1_aae02_17 : decode cJ0_isLatin1_aae02 17 = .ok (.iconst 0, 1) := by decide +kernel
theorem dJ0_isLatin1_aae02_18 : decode cJ0_isLatin1_aae02 18 = .ok (.ireturn, 1) := by decide +kernel
theorem dJ0_checkIndex_df160_0 : decode cJ0_checkIndex_df160 0 = .ok (.iload_n 0, 1) := by decide +kernel
theorem dJ0_checkIndex_df160_1 : decode cJ0_checkIndex_df160 1 = .ok (.iload_n 1, 1) := by decide +kernel
theorem dJ0_checkIndex_df160_2 : decode cJ0_checkIndex_df160 2 = .ok (.getstatic 1053, 3) := by decide +kernel
theorem dJ0_checkIndex_df160_5 : decode cJ0_checkIndex_df160 5 = .ok (.invokestatic 1059, 3) := by decide +kernel
theorem dJ0_checkIndex_df160_8 : decode cJ0_checkIndex_df160 8 = .ok (.pop, 1) := by decide +kernel
theorem dJ0_checkIndex_df160_9 : decode cJ0_checkIndex_df160 9 = .ok (.return_, 1) := by decide +kernel
theorem dJ1_charAt_3b067_0 : decode cJ1_charAt_3b067 0 = .ok (.iload_n 1, 1) := by decide +kernel
theorem dJ1_charAt_3b067_1 : decode cJ1_charAt_3b067 1 = .ok (.aload_n 0, 1) := by decide +kernel
theorem dJ1_charAt_3b067_2 : decode cJ1_charAt_3b067 2 = .ok (.arraylength, 1) := by decide +kernel
theorem dJ1_charAt_3b067_3 : decode cJ1_charAt_3b067 3 = .ok (.invokestatic 9, 3) := by decide +kernel
theorem dJ1_charAt_3b067_6 : decode cJ1_charAt_3b067 6 = .ok (.aload_n 0, 1) := by decide +kernel
theorem dJ1_charAt_3b067_7 : decode cJ1_charAt_3b067 7 = .ok (.iload_n 1, 1) := by decide +kernel
theorem dJ1_charAt_3b067_8 : decode cJ1_charAt_3b067 8 = .ok (.baload, 1) := by decide +kernel
theorem dJ1_charAt_3b067_9 : decode cJ1_charAt_3b067 9 = .ok (.sipush 255, 3) := by decide +kernel
theorem dJ1_charAt_3b067_12 : decode cJ1_charAt_3b067 12 = .ok (.iand, 1) := by decide +kernel
theorem dJ1_charAt_3b067_13 : decode cJ1_charAt_3b067 13 = .ok (.i2c, 1) := by decide +kernel
theorem dJ1_charAt_3b067_14 : decode cJ1_charAt_3b067 14 = .ok (.ireturn, 1) := by decide +kernel
theorem dJ2_getChar_3b067_0 : decode cJ2_getChar_3b067 0 = .ok (.getstatic 44, 3) := by decide +kernel
theorem dJ2_getChar_3b067_3 : decode cJ2_getChar_3b067 3 = .ok (.ifCond .ne 25, 3) := by decide +kernel
theorem dJ2_getChar_3b067_6 : decode cJ2_getChar_3b067 6 = .ok (.iload_n 1, 1) := by decide +kernel
theorem dJ2_getChar_3b067_7 : decode cJ2_getChar_3b067 7 = .ok (.ifCond .lt 11, 3) := by decide +kernel
theorem dJ2_getChar_3b067_10 : decode cJ2_getChar_3b067 10 = .ok (.iload_n 1, 1) := by decide +kernel
theorem dJ2_getChar_3b067_11 : decode cJ2_getChar_3b067 11 = .ok (.aload_n 0, 1) := by decide +kernel
theorem dJ2_getChar_3b067_12 : decode cJ2_getChar_3b067 12 = .ok (.invokestatic 48, 3) := by decide +kernel
theorem dJ2_getChar_3b067_15 : decode cJ2_getChar_3b067 15 = .ok (.if_icmp .lt 13, 3) := by decide +kernel
theorem dJ2_getChar_3b067_18 : decode cJ2_getChar_3b067 18 = .ok (.new 52, 3) := by decide +kernel
theorem dJ2_getChar_3b067_21 : decode cJ2_getChar_3b067 21 = .ok (.dup, 1) := by decide +kernel
theorem dJ2_getChar_3b067_22 : decode cJ2_getChar_3b067 22 = .ok (.ldc 54, 2) := by decide +kernel
theorem dJ2_getChar_3b067_24 : decode cJ2_getChar_3b067 24 = .ok (.invokespecial 56, 3) := by decide +kernel
theorem dJ2_getChar_3b067_27 : decode cJ2_getChar_3b067 27 = .ok (.athrow, 1) := by decide +kernel
theorem dJ2_getChar_3b067_28 : decode cJ2_getChar_3b067 28 = .ok (.iload_n 1, 1) := by decide +kernel
theorem dJ2_getChar_3b067_29 : decode cJ2_getChar_3b067 29 = .ok (.iconst 1, 1) := by decide +kernel
theorem dJ2_getChar_3b067_30 : decode cJ2_getChar_3b067 30 = .ok (.ishl, 1) := by decide +kernel
theorem dJ2_getChar_3b067_31 : decode cJ2_getChar_3b067 31 = .ok (.istore_n 1, 1) := by decide +kernel
theorem dJ2_getChar_3b067_32 : decode cJ2_getChar_3b067 32 = .ok (.aload_n 0, 1) := by decide +kernel
theorem dJ2_getChar_3b067_33 : decode cJ2_getChar_3b067 33 = .ok (.iload_n 1, 1) := by decide +kernel
theorem dJ2_getChar_3b067_34 : decode cJ2_getChar_3b067 34 = .ok (.iinc 1 1, 3) := by decide +kernel
theorem dJ2_getChar_3b067_37 : decode cJ2_getChar_3b067 37 = .ok (.baload, 1) := by decide +kernel
theorem dJ2_getChar_3b067_38 : decode cJ2_getChar_3b067 38 = .ok (.sipush 255, 3) := by decide +kernel
theorem dJ2_getChar_3b067_41 : decode cJ2_getChar_3b067 41 = .ok (.iand, 1) := by decide +kernel
theorem dJ2_getChar_3b067_42 : decode cJ2_getChar_3b067 42 = .ok (.getstatic 59, 3) := by decide +kernel
theorem dJ2_getChar_3b067_45 : decode cJ2_getChar_3b067 45 = .ok (.ishl, 1) := by decide +kernel
theorem dJ2_getChar_3b067_46 : decode cJ2_getChar_3b067 46 = .ok (.aload_n 0, 1) := by decide +kernel
theorem dJ2_getChar_3b067_47 : decode cJ2_getChar_3b067 47 = .ok (.iload_n 1, 1) := by decide +kernel
theorem dJ2_getChar_3b067_48 : decode cJ2_getChar_3b067 48 = .ok (.baload, 1) := by decide +kernel
theorem dJ2_getChar_3b067_49 : decode cJ2_getChar_3b067 49 = .ok (.sipush 255, 3) := by decide +kernel
theorem dJ2_getChar_3b067_52 : decode cJ2_getChar_3b067 52 = .ok (.iand, 1) := by decide +kernel
theorem dJ2_getChar_3b067_53 : decode cJ2_getChar_3b067 53 = .ok (.getstatic 63, 3) := by decide +kernel
theorem dJ2_getChar_3b067_56 : decode cJ2_getChar_3b067 56 = .ok (.ishl, 1) := by decide +kernel
theorem dJ2_getChar_3b067_57 : decode cJ2_getChar_3b067 57 = .ok (.ior, 1) := by decide +kernel
theorem dJ2_getChar_3b067_58 : decode cJ2_getChar_3b067 58 = .ok (.i2c, 1) := by decide +kernel
theorem dJ2_getChar_3b067_59 : decode cJ2_getChar_3b067 59 = .ok (.ireturn, 1) := by decide +kernel
theorem dJ2_length_9d52b_0 : decode cJ2_length_9d52b 0 = .ok (.aload_n 0, 1) := by decide +kernel
theorem dJ2_length_9d52b_1 : decode cJ2_length_9d52b 1 = .ok (.arraylength, 1) := by decide +kernel
theorem dJ2_length_9d52b_2 : decode cJ2_length_9d52b 2 = .ok (.iconst 1, 1) := by decide +kernel
theorem dJ2_length_9d52b_3 : decode cJ2_length_9d52b 3 = .ok (.ishr, 1) := by decide +kernel
theorem dJ2_length_9d52b_4 : decode cJ2_length_9d52b 4 = .ok (.ireturn, 1) := by decide +kernel
theorem dJ2_charAt_3b067_0 : decode cJ2_charAt_3b067 0 = .ok (.iload_n 1, 1) := by decide +kernel
theorem dJ2_charAt_3b067_1 : decode cJ2_charAt_3b067 1 = .ok (.aload_n 0, 1) := by decide +kernel
theorem dJ2_charAt_3b067_2 : decode cJ2_charAt_3b067 2 = .ok (.invokestatic 67, 3) := by decide +kernel
theorem dJ2_charAt_3b067_5 : decode cJ2_charAt_3b067 5 = .ok (.aload_n 0, 1) := by decide +kernel
theorem dJ2_charAt_3b067_6 : decode cJ2_charAt_3b067 6 = .ok (.iload_n 1, 1) := by decide +kernel
theorem dJ2_charAt_3b067_7 : decode cJ2_charAt_3b067 7 = .ok (.invokestatic 71, 3) := by decide +kernel
theorem dJ2_charAt_3b067_10 : decode cJ2_charAt_3b067 10 = .ok (.ireturn, 1) := by decide +kernel
theorem dJ2_checkIndex_2214a_0 : decode cJ2_checkIndex_2214a 0 = .ok (.iload_n 0, 1) := by decide +kernel
theorem dJ2_checkIndex_2214a_1 : decode cJ2_checkIndex_2214a 1 = .ok (.aload_n 1, 1) := by decide +kernel
theorem dJ2_checkIndex_2214a_2 : decode cJ2_checkIndex_2214a 2 = .ok (.invokestatic 48, 3) := by decide +kernel
theorem dJ2_checkIndex_2214a_5 : decode cJ2_checkIndex_2214a 5 = .ok (.invokestatic 414, 3) := by decide +kernel
theorem dJ2_checkIndex_2214a_8 : decode cJ2_checkIndex_2214a 8 = .ok (.return_, 1) := by decide +kernel
theorem dJ3_checkIndex_8e157_0 : decode cJ3_checkIndex_8e157 0 = .ok (.iload_n 0, 1) := by decide +kernel
theorem dJ3_checkIndex_8e157_1 : decode cJ3_checkIndex_8e157 1 = .ok (.ifCond .lt 8, 3) := by decide +kernel
theorem dJ3_checkIndex_8e157_4 : decode cJ3_checkIndex_8e157 4 = .ok (.iload_n 0, 1) := by decide +kernel
theorem dJ3_checkIndex_8e157_5 : decode cJ3_checkIndex_8e157 5 = .ok (.iload_n 1, 1) := by decide +kernel
theorem dJ3_checkIndex_8e157_6 : decode cJ3_checkIndex_8e157 6 = .ok (.if_icmp .lt 10, 3) := by decide +kernel
theorem dJ3_checkIndex_8e157_9 : decode cJ3_checkIndex_8e157 9 = .ok (.aload_n 2, 1) := by decide +kernel
theorem dJ3_checkIndex_8e157_10 : decode cJ3_checkIndex_8e157 10 = .ok (.iload_n 0, 1) := by decide +kernel
theorem dJ3_checkIndex_8e157_11 : decode cJ3_checkIndex_8e157 11 = .ok (.iload_n 1, 1) := by decide +kernel
theorem dJ3_checkIndex_8e157_12 : decode cJ3_checkIndex_8e157 12 = .ok (.invokestatic 95, 3) := by decide +kernel
theorem dJ3_checkIndex_8e157_15 : decode cJ3_checkIndex_8e157 15 = .ok (.athrow, 1) := by decide +kernel
theorem dJ3_checkIndex_8e157_16 : decode cJ3_checkIndex_8e157 16 = .ok (.iload_n 0, 1) := by decide +kernel
theorem dJ3_checkIndex_8e157_17 : decode cJ3_checkIndex_8e157 17 = .ok (.ireturn, 1) := by decide +kernel
theorem dL_law_0 : decode cL_law 0 = .ok (.new 7, 3) := by decide +kernel
theorem dL_law_3 : decode cL_law 3 = .ok (.dup, 1) := by decide +kernel
theorem dL_law_4 : decode cL_law 4 = .ok (.invokespecial 9, 3) := by decide +kernel
theorem dL_law_7 : decode cL_law 7 = .ok (.astore_n 1, 1) := by decide +kernel
theorem dL_law_8 : decode cL_law 8 = .ok (.new 10, 3) := by decide +kernel
theorem dL_law_11 : decode cL_law 11 = .ok (.dup, 1) := by decide +kernel
theorem dL_law_12 : decode cL_law 12 = .ok (.invokespecial 12, 3) := by decide +kernel
theorem dL_law_15 : decode cL_law 15 = .ok (.astore_n 2, 1) := by decide +kernel
theorem dL_law_16 : decode cL_law 16 = .ok (.iconst 0, 1) := by decide +kernel
theorem dL_law_17 : decode cL_law 17 = .ok (.istore_n 3, 1) := by decide +kernel
theorem dL_law_18 : decode cL_law 18 = .ok (.iload_n 3, 1) := by decide +kernel
theorem dL_law_19 : decode cL_law 19 = .ok (.aload_n 0, 1) := by decide +kernel
theorem dL_law_20 : decode cL_law 20 = .ok (.arraylength, 1) := by decide +kernel
theorem dL_law_21 : decode cL_law 21 = .ok (.bipush 7, 2) := by decide +kernel
theorem dL_law_23 : decode cL_law 23 = .ok (.isub, 1) := by decide +kernel
theorem dL_law_24 : decode cL_law 24 = .ok (.if_icmp .gt 1354, 3) := by decide +kernel
theorem dL_law_27 : decode cL_law 27 = .ok (.aload_n 0, 1) := by decide +kernel
theorem dL_law_28 : decode cL_law 28 = .ok (.iload_n 3, 1) := by decide +kernel
theorem dL_law_29 : decode cL_law 29 = .ok (.iaload, 1) := by decide +kernel
theorem dL_law_30 : decode cL_law 30 = .ok (.bipush 31, 2) := by decide +kernel
theorem dL_law_32 : decode cL_law 32 = .ok (.iand, 1) := by decide +kernel
theorem dL_law_33 : decode cL_law 33 = .ok (.tableswitch 1339 0 31 #[143, 206, 229, 242, 255, 288, 321, 354, 387, 430, 463, 486, 519, 568, 581, 604, 627, 680, 755, 788, 841, 884, 927, 990, 1043, 1106, 1159, 1182, 1195, 1270, 1293, 1316], 143) := by decide +kernel
theorem dL_law_176 : decode cL_law 176 = .ok (.aload_n 1, 1) := by decide +kernel
theorem dL_law_177 : decode cL_law 177 = .ok (.aload_n 0, 1) := by decide +kernel
theorem dL_law_178 : decode cL_law 178 = .ok (.iload_n 3, 1) := by decide +kernel
theorem dL_law_179 : decode cL_law 179 = .ok (.iconst 1, 1) := by decide +kernel
theorem dL_law_180 : decode cL_law 180 = .ok (.iadd, 1) := by decide +kernel
theorem dL_law_181 : decode cL_law 181 = .ok (.iaload, 1) := by decide +kernel
theorem dL_law_182 : decode cL_law 182 = .ok (.aload_n 0, 1) := by decide +kernel
theorem dL_law_183 : decode cL_law 183 = .ok (.iload_n 3, 1) := by decide +kernel
theorem dL_law_184 : decode cL_law 184 = .ok (.iconst 2, 1) := by decide +kernel
theorem dL_law_185 : decode cL_law 185 = .ok (.iadd, 1) := by decide +kernel
theorem dL_law_186 : decode cL_law 186 = .ok (.iaload, 1) := by decide +kernel
theorem dL_law_187 : decode cL_law 187 = .ok (.aload_n 0, 1) := by decide +kernel
theorem dL_law_188 : decode cL_law 188 = .ok (.iload_n 3, 1) := by decide +kernel
theorem dL_law_189 : decode cL_law 189 = .ok (.iconst 3, 1) := by decide +kernel
theorem dL_law_190 : decode cL_law 190 = .ok (.iadd, 1) := by decide +kernel
theorem dL_law_191 : decode cL_law 191 = .ok (.iaload, 1) := by decide +kernel
theorem dL_law_192 : decode cL_law 192 = .ok (.aload_n 0, 1) := by decide +kernel
theorem dL_law_193 : decode cL_law 193 = .ok (.iload_n 3, 1) := by decide +kernel
theorem dL_law_194 : decode cL_law 194 = .ok (.iconst 4, 1) := by decide +kernel
theorem dL_law_195 : decode cL_law 195 = .ok (.iadd, 1) := by decide +kernel
theorem dL_law_196 : decode cL_law 196 = .ok (.iaload, 1) := by decide +kernel
theorem dL_law_197 : decode cL_law 197 = .ok (.aload_n 0, 1) := by decide +kernel
theorem dL_law_198 : decode cL_law 198 = .ok (.iload_n 3, 1) := by decide +kernel
theorem dL_law_199 : decode cL_law 199 = .ok (.iconst 5, 1) := by decide +kernel
theorem dL_law_200 : decode cL_law 200 = .ok (.iadd, 1) := by decide +kernel
theorem dL_law_201 : decode cL_law 201 = .ok (.iaload, 1) := by decide +kernel
theorem dL_law_202 : decode cL_law 202 = .ok (.invokevirtual 13, 3) := by decide +kernel
theorem dL_law_205 : decode cL_law 205 = .ok (.aload_n 2, 1) := by decide +kernel
theorem dL_law_206 : decode cL_law 206 = .ok (.aload_n 0, 1) := by decide +kernel
theorem dL_law_207 : decode cL_law 207 = .ok (.iload_n 3, 1) := by decide +kernel
theorem dL_law_208 : decode cL_law 208 = .ok (.iconst 1, 1) := by decide +kernel
theorem dL_law_209 : decode cL_law 209 = .ok (.iadd, 1) := by decide +kernel
theorem dL_law_210 : decode cL_law 210 = .ok (.iaload, 1) := by decide +kernel
theorem dL_law_211 : decode cL_law 211 = .ok (.aload_n 0, 1) := by decide +kernel
theorem dL_law_212 : decode cL_law 212 = .ok (.iload_n 3, 1) := by decide +kernel
theorem dL_law_213 : decode cL_law 213 = .ok (.iconst 2, 1) := by decide +kernel
theorem dL_law_214 : decode cL_law 214 = .ok (.iadd, 1) := by decide +kernel
theorem dL_law_215 : decode cL_law 215 = .ok (.iaload, 1) := by decide +kernel
theorem dL_law_216 : decode cL_law 216 = .ok (.aload_n 0, 1) := by decide +kernel
theorem dL_law_217 : decode cL_law 217 = .ok (.iload_n 3, 1) := by decide +kernel
theorem dL_law_218 : decode cL_law 218 = .ok (.iconst 3, 1) := by decide +kernel
theorem dL_law_219 : decode cL_law 219 = .ok (.iadd, 1) := by decide +kernel
theorem dL_law_220 : decode cL_law 220 = .ok (.iaload, 1) := by decide +kernel
theorem dL_law_221 : decode cL_law 221 = .ok (.aload_n 0, 1) := by decide +kernel
theorem dL_law_222 : decode cL_law 222 = .ok (.iload_n 3, 1) := by decide +kernel
theorem dL_law_223 : decode cL_law 223 = .ok (.iconst 4, 1) := by decide +kernel
theorem dL_law_224 : decode cL_law 224 = .ok (.iadd, 1) := by decide +kernel
theorem dL_law_225 : decode cL_law 225 = .ok (.iaload, 1) := by decide +kernel
theorem dL_law_226 : decode cL_law 226 = .ok (.aload_n 0, 1) := by decide +kernel
theorem dL_law_227 : decode cL_law 227 = .ok (.iload_n 3, 1) := by decide +kernel
theorem dL_law_228 : decode cL_law 228 = .ok (.iconst 5, 1) := by decide +kernel
theorem dL_law_229 : decode cL_law 229 = .ok (.iadd, 1) := by decide +kernel
theorem dL_law_230 : decode cL_law 230 = .ok (.iaload, 1) := by decide +kernel
theorem dL_law_231 : decode cL_law 231 = .ok (.invokevirtual 17, 3) := by decide +kernel
theorem dL_law_234 : decode cL_law 234 = .ok (.if_icmp .eq 1138, 3) := by decide +kernel
theorem dL_law_237 : decode cL_law 237 = .ok (.iconst 0, 1) := by decide +kernel
theorem dL_law_238 : decode cL_law 238 = .ok (.ireturn, 1) := by decide +kernel
theorem dL_law_239 : decode cL_law 239 = .ok (.aload_n 1, 1) := by decide +kernel
theorem dL_law_240 : decode cL_law 240 = .ok (.aload_n 0, 1) := by decide +kernel
theorem dL_law_241 : decode cL_law 241 = .ok (.iload_n 3, 1) := by decide +kernel
theorem dL_law_242 : decode cL_law 242 = .ok (.iconst 1, 1) := by decide +kernel
theorem dL_law_243 : decode cL_law 243 = .ok (.iadd, 1) := by decide +kernel
theorem dL_law_244 : decode cL_law 244 = .ok (.iaload, 1) := by decide +kernel
theorem dL_law_245 : decode cL_law 245 = .ok (.invokevirtual 18, 3) := by decide +kernel
theorem dL_law_248 : decode cL_law 248 = .ok (.aload_n 2, 1) := by decide +kernel
theorem dL_law_249 : decode cL_law 249 = .ok (.aload_n 0, 1) := by decide +kernel
theorem dL_law_250 : decode cL_law 250 = .ok (.iload_n 3, 1) := by decide +kernel
theorem dL_law_251 : decode cL_law 251 = .ok (.iconst 1, 1) := by decide +kernel
theorem dL_law_252 : decode cL_law 252 = .ok (.iadd, 1) := by decide +kernel
theorem dL_law_253 : decode cL_law 253 = .ok (.iaload, 1) := by decide +kernel
theorem dL_law_254 : decode cL_law 254 = .ok (.invokevirtual 22, 3) := by decide +kernel
theorem dL_law_257 : decode cL_law 257 = .ok (.if_icmp .eq 1115, 3) := by decide +kernel
theorem dL_law_260 : decode cL_law 260 = .ok (.iconst 0, 1) := by decide +kernel
theorem dL_law_261 : decode cL_law 261 = .ok (.ireturn, 1) := by decide +kernel
theorem dL_law_262 : decode cL_law 262 = .ok (.aload_n 1, 1) := by decide +kernel
theorem dL_law_263 : decode cL_law 263 = .ok (.invokevirtual 23, 3) := by decide +kernel
theorem dL_law_266 : decode cL_law 266 = .ok (.aload_n 2, 1) := by decide +kernel
theorem dL_law_267 : decode cL_law 267 = .ok (.invokevirtual 27, 3) := by decide +kernel
theorem dL_law_270 : decode cL_law 270 = .ok (.if_icmp .eq 1102, 3) := by decide +kernel
theorem dL_law_273 : decode cL_law 273 = .ok (.iconst 0, 1) := by decide +kernel
theorem dL_law_274 : decode cL_law 274 = .ok (.ireturn, 1) := by decide +kernel
theorem dL_law_275 : decode cL_law 275 = .ok (.aload_n 1, 1) := by decide +kernel
theorem dL_law_276 : decode cL_law 276 = .ok (.invokevirtual 28, 3) := by decide +kernel
theorem dL_law_279 : decode cL_law 279 = .ok (.aload_n 2, 1) := by decide +kernel
theorem dL_law_280 : decode cL_law 280 = .ok (.invokevirtual 31, 3) := by decide +kernel
theorem dL_law_283 : decode cL_law 283 = .ok (.if_icmp .eq 1089, 3) := by decide +kernel
theorem dL_law_286 : decode cL_law 286 = .ok (.iconst 0, 1) := by decide +kernel
theorem dL_law_287 : decode cL_law 287 = .ok (.ireturn, 1) := by decide +kernel
theorem dL_law_288 : decode cL_law 288 = .ok (.aload_n 1, 1) := by decide +kernel
theorem dL_law_289 : decode cL_law 289 = .ok (.aload_n 0, 1) := by decide +kernel
theorem dL_law_290 : decode cL_law 290 = .ok (.iload_n 3, 1) := by decide +kernel
theorem dL_law_291 : decode cL_law 291 = .ok (.iconst 1, 1) := by decide +kernel
theorem dL_law_292 : decode cL_law 292 = .ok (.iadd, 1) := by decide +kernel
theorem dL_law_293 : decode cL_law 293 = .ok (.iaload, 1) := by decide +kernel
theorem dL_law_294 : decode cL_law 294 = .ok (.aload_n 0, 1) := by decide +kernel
theorem dL_law_295 : decode cL_law 295 = .ok (.iload_n 3, 1) := by decide +kernel
theorem dL_law_296 : decode cL_law 296 = .ok (.iconst 2, 1) := by decide +kernel
theorem dL_law_297 : decode cL_law 297 = .ok (.iadd, 1) := by decide +kernel
theorem dL_law_298 : decode cL_law 298 = .ok (.iaload, 1) := by decide +kernel
theorem dL_law_299 : decode cL_law 299 = .ok (.invokevirtual 32, 3) := by decide +kernel
theorem dL_law_302 : decode cL_law 302 = .ok (.aload_n 2, 1) := by decide +kernel
theorem dL_law_303 : decode cL_law 303 = .ok (.aload_n 0, 1) := by decide +kernel
theorem dL_law_304 : decode cL_law 304 = .ok (.iload_n 3, 1) := by decide +kernel
theorem dL_law_305 : decode cL_law 305 = .ok (.iconst 1, 1) := by decide +kernel
theorem dL_law_306 : decode cL_law 306 = .ok (.iadd, 1) := by decide +kernel
theorem dL_law_307 : decode cL_law 307 = .ok (.iaload, 1) := by decide +kernel
theorem dL_law_308 : decode cL_law 308 = .ok (.aload_n 0, 1) := by decide +kernel
theorem dL_law_309 : decode cL_law 309 = .ok (.iload_n 3, 1) := by decide +kernel
theorem dL_law_310 : decode cL_law 310 = .ok (.iconst 2, 1) := by decide +kernel
theorem dL_law_311 : decode cL_law 311 = .ok (.iadd, 1) := by decide +kernel
theorem dL_law_312 : decode cL_law 312 = .ok (.iaload, 1) := by decide +kernel
theorem dL_law_313 : decode cL_law 313 = .ok (.invokevirtual 36, 3) := by decide +kernel
theorem dL_law_316 : decode cL_law 316 = .ok (.if_icmp .eq 1056, 3) := by decide +kernel
theorem dL_law_319 : decode cL_law 319 = .ok (.iconst 0, 1) := by decide +kernel
theorem dL_law_320 : decode cL_law 320 = .ok (.ireturn, 1) := by decide +kernel
theorem dL_law_321 : decode cL_law 321 = .ok (.aload_n 1, 1) := by decide +kernel
theorem dL_law_322 : decode cL_law 322 = .ok (.aload_n 0, 1) := by decide +kernel
theorem dL_law_323 : decode cL_law 323 = .ok (.iload_n 3, 1) := by decide +kernel
theorem dL_law_324 : decode cL_law 324 = .ok (.iconst 1, 1) := by decide +kernel
theorem dL_law_325 : decode cL_law 325 = .ok (.iadd, 1) := by decide +kernel
theorem dL_law_326 : decode cL_law 326 = .ok (.iaload, 1) := by decide +kernel
theorem dL_law_327 : decode cL_law 327 = .ok (.aload_n 0, 1) := by decide +kernel
theorem dL_law_328 : decode cL_law 328 = .ok (.iload_n 3, 1) := by decide +kernel
theorem dL_law_329 : decode cL_law 329 = .ok (.iconst 2, 1) := by decide +kernel
theorem dL_law_330 : decode cL_law 330 = .ok (.iadd, 1) := by decide +kernel
theorem dL_law_331 : decode cL_law 331 = .ok (.iaload, 1) := by decide +kernel
theorem dL_law_332 : decode cL_law 332 = .ok (.invokevirtual 37, 3) := by decide +kernel
theorem dL_law_335 : decode cL_law 335 = .ok (.aload_n 2, 1) := by decide +kernel
theorem dL_law_336 : decode cL_law 336 = .ok (.aload_n 0, 1) := by decide +kernel
theorem dL_law_337 : decode cL_law 337 = .ok (.iload_n 3, 1) := by decide +kernel
theorem dL_law_338 : decode cL_law 338 = .ok (.iconst 1, 1) := by decide +kernel
theorem dL_law_339 : decode cL_law 339 = .ok (.iadd, 1) := by decide +kernel
theorem dL_law_340 : decode cL_law 340 = .ok (.iaload, 1) := by decide +kernel
theorem dL_law_341 : decode cL_law 341 = .ok (.aload_n 0, 1) := by decide +kernel
theorem dL_law_342 : decode cL_law 342 = .ok (.iload_n 3, 1) := by decide +kernel
theorem dL_law_343 : decode cL_law 343 = .ok (.iconst 2, 1) := by decide +kernel
theorem dL_law_344 : decode cL_law 344 = .ok (.iadd, 1) := by decide +kernel
theorem dL_law_345 : decode cL_law 345 = .ok (.iaload, 1) := by decide +kernel
theorem dL_law_346 : decode cL_law 346 = .ok (.invokevirtual 40, 3) := by decide +kernel
theorem dL_law_349 : decode cL_law 349 = .ok (.if_icmp .eq 1023, 3) := by decide +kernel
theorem dL_law_352 : decode cL_law 352 = .ok (.iconst 0, 1) := by decide +kernel
theorem dL_law_353 : decode cL_law 353 = .ok (.ireturn, 1) := by decide +kernel
theorem dL_law_354 : decode cL_law 354 = .ok (.aload_n 1, 1) := by decide +kernel
theorem dL_law_355 : decode cL_law 355 = .ok (.aload_n 0, 1) := by decide +kernel
theorem dL_law_356 : decode cL_law 356 = .ok (.iload_n 3, 1) := by decide +kernel
theorem dL_law_357 : decode cL_law 357 = .ok (.iconst 1, 1) := by decide +kernel
theorem dL_law_358 : decode cL_law 358 = .ok (.iadd, 1) := by decide +kernel
theorem dL_law_359 : decode cL_law 359 = .ok (.iaload, 1) := by decide +kernel
theorem dL_law_360 : decode cL_law 360 = .ok (.aload_n 0, 1) := by decide +kernel
theorem dL_law_361 : decode cL_law 361 = .ok (.iload_n 3, 1) := by decide +kernel
theorem dL_law_362 : decode cL_law 362 = .ok (.iconst 2, 1) := by decide +kernel
theorem dL_law_363 : decode cL_law 363 = .ok (.iadd, 1) := by decide +kernel
theorem dL_law_364 : decode cL_law 364 = .ok (.iaload, 1) := by decide +kernel
theorem dL_law_365 : decode cL_law 365 = .ok (.invokevirtual 41, 3) := by decide +kernel
theorem dL_law_368 : decode cL_law 368 = .ok (.aload_n 2, 1) := by decide +kernel
theorem dL_law_369 : decode cL_law 369 = .ok (.aload_n 0, 1) := by decide +kernel
theorem dL_law_370 : decode cL_law 370 = .ok (.iload_n 3, 1) := by decide +kernel
theorem dL_law_371 : decode cL_law 371 = .ok (.iconst 1, 1) := by decide +kernel
theorem dL_law_372 : decode cL_law 372 = .ok (.iadd, 1) := by decide +kernel
theorem dL_law_373 : decode cL_law 373 = .ok (.iaload, 1) := by decide +kernel
theorem dL_law_374 : decode cL_law 374 = .ok (.aload_n 0, 1) := by decide +kernel
theorem dL_law_375 : decode cL_law 375 = .ok (.iload_n 3, 1) := by decide +kernel
theorem dL_law_376 : decode cL_law 376 = .ok (.iconst 2, 1) := by decide +kernel
theorem dL_law_377 : decode cL_law 377 = .ok (.iadd, 1) := by decide +kernel
theorem dL_law_378 : decode cL_law 378 = .ok (.iaload, 1) := by decide +kernel
theorem dL_law_379 : decode cL_law 379 = .ok (.invokevirtual 44, 3) := by decide +kernel
theorem dL_law_382 : decode cL_law 382 = .ok (.if_icmp .eq 990, 3) := by decide +kernel
theorem dL_law_385 : decode cL_law 385 = .ok (.iconst 0, 1) := by decide +kernel
theorem dL_law_386 : decode cL_law 386 = .ok (.ireturn, 1) := by decide +kernel
theorem dL_law_387 : decode cL_law 387 = .ok (.aload_n 1, 1) := by decide +kernel
theorem dL_law_388 : decode cL_law 388 = .ok (.aload_n 0, 1) := by decide +kernel
theorem dL_law_389 : decode cL_law 389 = .ok (.iload_n 3, 1) := by decide +kernel
theorem dL_law_390 : decode cL_law 390 = .ok (.iconst 1, 1) := by decide +kernel
theorem dL_law_391 : decode cL_law 391 = .ok (.iadd, 1) := by decide +kernel
theorem dL_law_392 : decode cL_law 392 = .ok (.iaload, 1) := by decide +kernel
theorem dL_law_393 : decode cL_law 393 = .ok (.aload_n 0, 1) := by decide +kernel
theorem dL_law_394 : decode cL_law 394 = .ok (.iload_n 3, 1) := by decide +kernel
theorem dL_law_395 : decode cL_law 395 = .ok (.iconst 2, 1) := by decide +kernel
theorem dL_law_396 : decode cL_law 396 = .ok (.iadd, 1) := by decide +kernel
theorem dL_law_397 : decode cL_law 397 = .ok (.iaload, 1) := by decide +kernel
theorem dL_law_398 : decode cL_law 398 = .ok (.invokevirtual 45, 3) := by decide +kernel
theorem dL_law_401 : decode cL_law 401 = .ok (.aload_n 2, 1) := by decide +kernel
theorem dL_law_402 : decode cL_law 402 = .ok (.aload_n 0, 1) := by decide +kernel
theorem dL_law_403 : decode cL_law 403 = .ok (.iload_n 3, 1) := by decide +kernel
theorem dL_law_404 : decode cL_law 404 = .ok (.iconst 1, 1) := by decide +kernel
theorem dL_law_405 : decode cL_law 405 = .ok (.iadd, 1) := by decide +kernel
theorem dL_law_406 : decode cL_law 406 = .ok (.iaload, 1) := by decide +kernel
theorem dL_law_407 : decode cL_law 407 = .ok (.aload_n 0, 1) := by decide +kernel
theorem dL_law_408 : decode cL_law 408 = .ok (.iload_n 3, 1) := by decide +kernel
theorem dL_law_409 : decode cL_law 409 = .ok (.iconst 2, 1) := by decide +kernel
theorem dL_law_410 : decode cL_law 410 = .ok (.iadd, 1) := by decide +kernel
theorem dL_law_411 : decode cL_law 411 = .ok (.iaload, 1) := by decide +kernel
theorem dL_law_412 : decode cL_law 412 = .ok (.invokevirtual 48, 3) := by decide +kernel
theorem dL_law_415 : decode cL_law 415 = .ok (.if_icmp .eq 957, 3) := by decide +kernel
theorem dL_law_418 : decode cL_law 418 = .ok (.iconst 0, 1) := by decide +kernel
theorem dL_law_419 : decode cL_law 419 = .ok (.ireturn, 1) := by decide +kernel
theorem dL_law_420 : decode cL_law 420 = .ok (.aload_n 1, 1) := by decide +kernel
theorem dL_law_421 : decode cL_law 421 = .ok (.aload_n 0, 1) := by decide +kernel
theorem dL_law_422 : decode cL_law 422 = .ok (.iload_n 3, 1) := by decide +kernel
theorem dL_law_423 : decode cL_law 423 = .ok (.iconst 1, 1) := by decide +kernel
theorem dL_law_424 : decode cL_law 424 = .ok (.iadd, 1) := by decide +kernel
theorem dL_law_425 : decode cL_law 425 = .ok (.iaload, 1) := by decide +kernel
theorem dL_law_426 : decode cL_law 426 = .ok (.aload_n 0, 1) := by decide +kernel
theorem dL_law_427 : decode cL_law 427 = .ok (.iload_n 3, 1) := by decide +kernel
theorem dL_law_428 : decode cL_law 428 = .ok (.iconst 2, 1) := by decide +kernel
theorem dL_law_429 : decode cL_law 429 = .ok (.iadd, 1) := by decide +kernel
theorem dL_law_430 : decode cL_law 430 = .ok (.iaload, 1) := by decide +kernel
theorem dL_law_431 : decode cL_law 431 = .ok (.aload_n 0, 1) := by decide +kernel
theorem dL_law_432 : decode cL_law 432 = .ok (.iload_n 3, 1) := by decide +kernel
theorem dL_law_433 : decode cL_law 433 = .ok (.iconst 3, 1) := by decide +kernel
theorem dL_law_434 : decode cL_law 434 = .ok (.iadd, 1) := by decide +kernel
theorem dL_law_435 : decode cL_law 435 = .ok (.iaload, 1) := by decide +kernel
theorem dL_law_436 : decode cL_law 436 = .ok (.invokevirtual 49, 3) := by decide +kernel
theorem dL_law_439 : decode cL_law 439 = .ok (.aload_n 2, 1) := by decide +kernel
theorem dL_law_440 : decode cL_law 440 = .ok (.aload_n 0, 1) := by decide +kernel
theorem dL_law_441 : decode cL_law 441 = .ok (.iload_n 3, 1) := by decide +kernel
theorem dL_law_442 : decode cL_law 442 = .ok (.iconst 1, 1) := by decide +kernel
theorem dL_law_443 : decode cL_law 443 = .ok (.iadd, 1) := by decide +kernel
theorem dL_law_444 : decode cL_law 444 = .ok (.iaload, 1) := by decide +kernel
theorem dL_law_445 : decode cL_law 445 = .ok (.aload_n 0, 1) := by decide +kernel
theorem dL_law_446 : decode cL_law 446 = .ok (.iload_n 3, 1) := by decide +kernel
theorem dL_law_447 : decode cL_law 447 = .ok (.iconst 2, 1) := by decide +kernel
theorem dL_law_448 : decode cL_law 448 = .ok (.iadd, 1) := by decide +kernel
theorem dL_law_449 : decode cL_law 449 = .ok (.iaload, 1) := by decide +kernel
theorem dL_law_450 : decode cL_law 450 = .ok (.aload_n 0, 1) := by decide +kernel
theorem dL_law_451 : decode cL_law 451 = .ok (.iload_n 3, 1) := by decide +kernel
theorem dL_law_452 : decode cL_law 452 = .ok (.iconst 3, 1) := by decide +kernel
theorem dL_law_453 : decode cL_law 453 = .ok (.iadd, 1) := by decide +kernel
theorem dL_law_454 : decode cL_law 454 = .ok (.iaload, 1) := by decide +kernel
theorem dL_law_455 : decode cL_law 455 = .ok (.invokevirtual 53, 3) := by decide +kernel
theorem dL_law_458 : decode cL_law 458 = .ok (.if_icmp .eq 914, 3) := by decide +kernel
theorem dL_law_461 : decode cL_law 461 = .ok (.iconst 0, 1) := by decide +kernel
theorem dL_law_462 : decode cL_law 462 = .ok (.ireturn, 1) := by decide +kernel
theorem dL_law_463 : decode cL_law 463 = .ok (.aload_n 1, 1) := by decide +kernel
theorem dL_law_464 : decode cL_law 464 = .ok (.aload_n 0, 1) := by decide +kernel
theorem dL_law_465 : decode cL_law 465 = .ok (.iload_n 3, 1) := by decide +kernel
theorem dL_law_466 : decode cL_law 466 = .ok (.iconst 1, 1) := by decide +kernel
theorem dL_law_467 : decode cL_law 467 = .ok (.iadd, 1) := by decide +kernel
theorem dL_law_468 : decode cL_law 468 = .ok (.iaload, 1) := by decide +kernel
theorem dL_law_469 : decode cL_law 469 = .ok (.aload_n 0, 1) := by decide +kernel
theorem dL_law_470 : decode cL_law 470 = .ok (.iload_n 3, 1) := by decide +kernel
theorem dL_law_471 : decode cL_law 471 = .ok (.iconst 2, 1) := by decide +kernel
theorem dL_law_472 : decode cL_law 472 = .ok (.iadd, 1) := by decide +kernel
theorem dL_law_473 : decode cL_law 473 = .ok (.iaload, 1) := by decide +kernel
theorem dL_law_474 : decode cL_law 474 = .ok (.invokevirtual 54, 3) := by decide +kernel
theorem dL_law_477 : decode cL_law 477 = .ok (.aload_n 2, 1) := by decide +kernel
theorem dL_law_478 : decode cL_law 478 = .ok (.aload_n 0, 1) := by decide +kernel
theorem dL_law_479 : decode cL_law 479 = .ok (.iload_n 3, 1) := by decide +kernel
theorem dL_law_480 : decode cL_law 480 = .ok (.iconst 1, 1) := by decide +kernel
theorem dL_law_481 : decode cL_law 481 = .ok (.iadd, 1) := by decide +kernel
theorem dL_law_482 : decode cL_law 482 = .ok (.iaload, 1) := by decide +kernel
theorem dL_law_483 : decode cL_law 483 = .ok (.aload_n 0, 1) := by decide +kernel
theorem dL_law_484 : decode cL_law 484 = .ok (.iload_n 3, 1) := by decide +kernel
theorem dL_law_485 : decode cL_law 485 = .ok (.iconst 2, 1) := by decide +kernel
theorem dL_law_486 : decode cL_law 486 = .ok (.iadd, 1) := by decide +kernel
theorem dL_law_487 : decode cL_law 487 = .ok (.iaload, 1) := by decide +kernel
theorem dL_law_488 : decode cL_law 488 = .ok (.invokevirtual 57, 3) := by decide +kernel
theorem dL_law_491 : decode cL_law 491 = .ok (.if_icmp .eq 881, 3) := by decide +kernel
theorem dL_law_494 : decode cL_law 494 = .ok (.iconst 0, 1) := by decide +kernel
theorem dL_law_495 : decode cL_law 495 = .ok (.ireturn, 1) := by decide +kernel
theorem dL_law_496 : decode cL_law 496 = .ok (.aload_n 1, 1) := by decide +kernel
theorem dL_law_497 : decode cL_law 497 = .ok (.aload_n 0, 1) := by decide +kernel
theorem dL_law_498 : decode cL_law 498 = .ok (.iload_n 3, 1) := by decide +kernel
theorem dL_law_499 : decode cL_law 499 = .ok (.iconst 1, 1) := by decide +kernel
theorem dL_law_500 : decode cL_law 500 = .ok (.iadd, 1) := by decide +kernel
theorem dL_law_501 : decode cL_law 501 = .ok (.iaload, 1) := by decide +kernel
theorem dL_law_502 : decode cL_law 502 = .ok (.invokevirtual 58, 3) := by decide +kernel
theorem dL_law_505 : decode cL_law 505 = .ok (.aload_n 2, 1) := by decide +kernel
theorem dL_law_506 : decode cL_law 506 = .ok (.aload_n 0, 1) := by decide +kernel
theorem dL_law_507 : decode cL_law 507 = .ok (.iload_n 3, 1) := by decide +kernel
theorem dL_law_508 : decode cL_law 508 = .ok (.iconst 1, 1) := by decide +kernel
theorem dL_law_509 : decode cL_law 509 = .ok (.iadd, 1) := by decide +kernel
theorem dL_law_510 : decode cL_law 510 = .ok (.iaload, 1) := by decide +kernel
theorem dL_law_511 : decode cL_law 511 = .ok (.invokevirtual 61, 3) := by decide +kernel
theorem dL_law_514 : decode cL_law 514 = .ok (.if_icmp .eq 858, 3) := by decide +kernel
theorem dL_law_517 : decode cL_law 517 = .ok (.iconst 0, 1) := by decide +kernel
theorem dL_law_518 : decode cL_law 518 = .ok (.ireturn, 1) := by decide +kernel
theorem dL_law_519 : decode cL_law 519 = .ok (.aload_n 1, 1) := by decide +kernel
theorem dL_law_520 : decode cL_law 520 = .ok (.aload_n 0, 1) := by decide +kernel
theorem dL_law_521 : decode cL_law 521 = .ok (.iload_n 3, 1) := by decide +kernel
theorem dL_law_522 : decode cL_law 522 = .ok (.iconst 1, 1) := by decide +kernel
theorem dL_law_523 : decode cL_law 523 = .ok (.iadd, 1) := by decide +kernel
theorem dL_law_524 : decode cL_law 524 = .ok (.iaload, 1) := by decide +kernel
theorem dL_law_525 : decode cL_law 525 = .ok (.aload_n 0, 1) := by decide +kernel
theorem dL_law_526 : decode cL_law 526 = .ok (.iload_n 3, 1) := by decide +kernel
theorem dL_law_527 : decode cL_law 527 = .ok (.iconst 2, 1) := by decide +kernel
theorem dL_law_528 : decode cL_law 528 = .ok (.iadd, 1) := by decide +kernel
theorem dL_law_529 : decode cL_law 529 = .ok (.iaload, 1) := by decide +kernel
theorem dL_law_530 : decode cL_law 530 = .ok (.invokevirtual 62, 3) := by decide +kernel
theorem dL_law_533 : decode cL_law 533 = .ok (.aload_n 2, 1) := by decide +kernel
theorem dL_law_534 : decode cL_law 534 = .ok (.aload_n 0, 1) := by decide +kernel
theorem dL_law_535 : decode cL_law 535 = .ok (.iload_n 3, 1) := by decide +kernel
theorem dL_law_536 : decode cL_law 536 = .ok (.iconst 1, 1) := by decide +kernel
theorem dL_law_537 : decode cL_law 537 = .ok (.iadd, 1) := by decide +kernel
theorem dL_law_538 : decode cL_law 538 = .ok (.iaload, 1) := by decide +kernel
theorem dL_law_539 : decode cL_law 539 = .ok (.aload_n 0, 1) := by decide +kernel
theorem dL_law_540 : decode cL_law 540 = .ok (.iload_n 3, 1) := by decide +kernel
theorem dL_law_541 : decode cL_law 541 = .ok (.iconst 2, 1) := by decide +kernel
theorem dL_law_542 : decode cL_law 542 = .ok (.iadd, 1) := by decide +kernel
theorem dL_law_543 : decode cL_law 543 = .ok (.iaload, 1) := by decide +kernel
theorem dL_law_544 : decode cL_law 544 = .ok (.invokevirtual 65, 3) := by decide +kernel
theorem dL_law_547 : decode cL_law 547 = .ok (.if_icmp .eq 825, 3) := by decide +kernel
theorem dL_law_550 : decode cL_law 550 = .ok (.iconst 0, 1) := by decide +kernel
theorem dL_law_551 : decode cL_law 551 = .ok (.ireturn, 1) := by decide +kernel
theorem dL_law_552 : decode cL_law 552 = .ok (.aload_n 1, 1) := by decide +kernel
theorem dL_law_553 : decode cL_law 553 = .ok (.aload_n 0, 1) := by decide +kernel
theorem dL_law_554 : decode cL_law 554 = .ok (.iload_n 3, 1) := by decide +kernel
theorem dL_law_555 : decode cL_law 555 = .ok (.iconst 1, 1) := by decide +kernel
theorem dL_law_556 : decode cL_law 556 = .ok (.iadd, 1) := by decide +kernel
theorem dL_law_557 : decode cL_law 557 = .ok (.iaload, 1) := by decide +kernel
theorem dL_law_558 : decode cL_law 558 = .ok (.aload_n 0, 1) := by decide +kernel
theorem dL_law_559 : decode cL_law 559 = .ok (.iload_n 3, 1) := by decide +kernel
theorem dL_law_560 : decode cL_law 560 = .ok (.iconst 2, 1) := by decide +kernel
theorem dL_law_561 : decode cL_law 561 = .ok (.iadd, 1) := by decide +kernel
theorem dL_law_562 : decode cL_law 562 = .ok (.iaload, 1) := by decide +kernel
theorem dL_law_563 : decode cL_law 563 = .ok (.ifCond .eq 7, 3) := by decide +kernel
theorem dL_law_566 : decode cL_law 566 = .ok (.iconst 1, 1) := by decide +kernel
theorem dL_law_567 : decode cL_law 567 = .ok (.goto 4, 3) := by decide +kernel
theorem dL_law_570 : decode cL_law 570 = .ok (.iconst 0, 1) := by decide +kernel
theorem dL_law_571 : decode cL_law 571 = .ok (.invokevirtual 66, 3) := by decide +kernel
theorem dL_law_574 : decode cL_law 574 = .ok (.aload_n 2, 1) := by decide +kernel
theorem dL_law_575 : decode cL_law 575 = .ok (.aload_n 0, 1) := by decide +kernel
theorem dL_law_576 : decode cL_law 576 = .ok (.iload_n 3, 1) := by decide +kernel
theorem dL_law_577 : decode cL_law 577 = .ok (.iconst 1, 1) := by decide +kernel
theorem dL_law_578 : decode cL_law 578 = .ok (.iadd, 1) := by decide +kernel
theorem dL_law_579 : decode cL_law 579 = .ok (.iaload, 1) := by decide +kernel
theorem dL_law_580 : decode cL_law 580 = .ok (.aload_n 0, 1) := by decide +kernel
theorem dL_law_581 : decode cL_law 581 = .ok (.iload_n 3, 1) := by decide +kernel
theorem dL_law_582 : decode cL_law 582 = .ok (.iconst 2, 1) := by decide +kernel
theorem dL_law_583 : decode cL_law 583 = .ok (.iadd, 1) := by decide +kernel
theorem dL_law_584 : decode cL_law 584 = .ok (.iaload, 1) := by decide +kernel
theorem dL_law_585 : decode cL_law 585 = .ok (.ifCond .eq 7, 3) := by decide +kernel
theorem dL_law_588 : decode cL_law 588 = .ok (.iconst 1, 1) := by decide +kernel
theorem dL_law_589 : decode cL_law 589 = .ok (.goto 4, 3) := by decide +kernel
theorem dL_law_592 : decode cL_law 592 = .ok (.iconst 0, 1) := by decide +kernel
theorem dL_law_593 : decode cL_law 593 = .ok (.invokevirtual 70, 3) := by decide +kernel
theorem dL_law_596 : decode cL_law 596 = .ok (.if_icmp .eq 776, 3) := by decide +kernel
theorem dL_law_599 : decode cL_law 599 = .ok (.iconst 0, 1) := by decide +kernel
theorem dL_law_600 : decode cL_law 600 = .ok (.ireturn, 1) := by decide +kernel
theorem dL_law_601 : decode cL_law 601 = .ok (.aload_n 1, 1) := by decide +kernel
theorem dL_law_602 : decode cL_law 602 = .ok (.invokevirtual 71, 3) := by decide +kernel
theorem dL_law_605 : decode cL_law 605 = .ok (.aload_n 2, 1) := by decide +kernel
theorem dL_law_606 : decode cL_law 606 = .ok (.invokevirtual 74, 3) := by decide +kernel
theorem dL_law_609 : decode cL_law 609 = .ok (.if_icmp .eq 763, 3) := by decide +kernel
theorem dL_law_612 : decode cL_law 612 = .ok (.iconst 0, 1) := by decide +kernel
theorem dL_law_613 : decode cL_law 613 = .ok (.ireturn, 1) := by decide +kernel
theorem dL_law_614 : decode cL_law 614 = .ok (.aload_n 1, 1) := by decide +kernel
theorem dL_law_615 : decode cL_law 615 = .ok (.aload_n 0, 1) := by decide +kernel
theorem dL_law_616 : decode cL_law 616 = .ok (.iload_n 3, 1) := by decide +kernel
theorem dL_law_617 : decode cL_law 617 = .ok (.iconst 1, 1) := by decide +kernel
theorem dL_law_618 : decode cL_law 618 = .ok (.iadd, 1) := by decide +kernel
theorem dL_law_619 : decode cL_law 619 = .ok (.iaload, 1) := by decide +kernel
theorem dL_law_620 : decode cL_law 620 = .ok (.invokevirtual 75, 3) := by decide +kernel
theorem dL_law_623 : decode cL_law 623 = .ok (.aload_n 2, 1) := by decide +kernel
theorem dL_law_624 : decode cL_law 624 = .ok (.aload_n 0, 1) := by decide +kernel
theorem dL_law_625 : decode cL_law 625 = .ok (.iload_n 3, 1) := by decide +kernel
theorem dL_law_626 : decode cL_law 626 = .ok (.iconst 1, 1) := by decide +kernel
theorem dL_law_627 : decode cL_law 627 = .ok (.iadd, 1) := by decide +kernel
theorem dL_law_628 : decode cL_law 628 = .ok (.iaload, 1) := by decide +kernel
theorem dL_law_629 : decode cL_law 629 = .ok (.invokevirtual 78, 3) := by decide +kernel
theorem dL_law_632 : decode cL_law 632 = .ok (.if_icmp .eq 740, 3) := by decide +kernel
theorem dL_law_635 : decode cL_law 635 = .ok (.iconst 0, 1) := by decide +kernel
theorem dL_law_636 : decode cL_law 636 = .ok (.ireturn, 1) := by decide +kernel
theorem dL_law_637 : decode cL_law 637 = .ok (.aload_n 1, 1) := by decide +kernel
theorem dL_law_638 : decode cL_law 638 = .ok (.aload_n 0, 1) := by decide +kernel
theorem dL_law_639 : decode cL_law 639 = .ok (.iload_n 3, 1) := by decide +kernel
theorem dL_law_640 : decode cL_law 640 = .ok (.iconst 1, 1) := by decide +kernel
theorem dL_law_641 : decode cL_law 641 = .ok (.iadd, 1) := by decide +kernel
theorem dL_law_642 : decode cL_law 642 = .ok (.iaload, 1) := by decide +kernel
theorem dL_law_643 : decode cL_law 643 = .ok (.invokevirtual 79, 3) := by decide +kernel
theorem dL_law_646 : decode cL_law 646 = .ok (.aload_n 2, 1) := by decide +kernel
theorem dL_law_647 : decode cL_law 647 = .ok (.aload_n 0, 1) := by decide +kernel
theorem dL_law_648 : decode cL_law 648 = .ok (.iload_n 3, 1) := by decide +kernel
theorem dL_law_649 : decode cL_law 649 = .ok (.iconst 1, 1) := by decide +kernel
theorem dL_law_650 : decode cL_law 650 = .ok (.iadd, 1) := by decide +kernel
theorem dL_law_651 : decode cL_law 651 = .ok (.iaload, 1) := by decide +kernel
theorem dL_law_652 : decode cL_law 652 = .ok (.invokevirtual 82, 3) := by decide +kernel
theorem dL_law_655 : decode cL_law 655 = .ok (.if_icmp .eq 717, 3) := by decide +kernel
theorem dL_law_658 : decode cL_law 658 = .ok (.iconst 0, 1) := by decide +kernel
theorem dL_law_659 : decode cL_law 659 = .ok (.ireturn, 1) := by decide +kernel
theorem dL_law_660 : decode cL_law 660 = .ok (.aload_n 1, 1) := by decide +kernel
theorem dL_law_661 : decode cL_law 661 = .ok (.aload_n 0, 1) := by decide +kernel
theorem dL_law_662 : decode cL_law 662 = .ok (.iload_n 3, 1) := by decide +kernel
theorem dL_law_663 : decode cL_law 663 = .ok (.iconst 1, 1) := by decide +kernel
theorem dL_law_664 : decode cL_law 664 = .ok (.iadd, 1) := by decide +kernel
theorem dL_law_665 : decode cL_law 665 = .ok (.iaload, 1) := by decide +kernel
theorem dL_law_666 : decode cL_law 666 = .ok (.aload_n 0, 1) := by decide +kernel
theorem dL_law_667 : decode cL_law 667 = .ok (.iload_n 3, 1) := by decide +kernel
theorem dL_law_668 : decode cL_law 668 = .ok (.iconst 2, 1) := by decide +kernel
theorem dL_law_669 : decode cL_law 669 = .ok (.iadd, 1) := by decide +kernel
theorem dL_law_670 : decode cL_law 670 = .ok (.iaload, 1) := by decide +kernel
theorem dL_law_671 : decode cL_law 671 = .ok (.aload_n 0, 1) := by decide +kernel
theorem dL_law_672 : decode cL_law 672 = .ok (.iload_n 3, 1) := by decide +kernel
theorem dL_law_673 : decode cL_law 673 = .ok (.iconst 3, 1) := by decide +kernel
theorem dL_law_674 : decode cL_law 674 = .ok (.iadd, 1) := by decide +kernel
theorem dL_law_675 : decode cL_law 675 = .ok (.iaload, 1) := by decide +kernel
theorem dL_law_676 : decode cL_law 676 = .ok (.aload_n 0, 1) := by decide +kernel
theorem dL_law_677 : decode cL_law 677 = .ok (.iload_n 3, 1) := by decide +kernel
theorem dL_law_678 : decode cL_law 678 = .ok (.iconst 4, 1) := by decide +kernel
theorem dL_law_679 : decode cL_law 679 = .ok (.iadd, 1) := by decide +kernel
theorem dL_law_680 : decode cL_law 680 = .ok (.iaload, 1) := by decide +kernel
theorem dL_law_681 : decode cL_law 681 = .ok (.invokevirtual 83, 3) := by decide +kernel
theorem dL_law_684 : decode cL_law 684 = .ok (.aload_n 2, 1) := by decide +kernel
theorem dL_law_685 : decode cL_law 685 = .ok (.aload_n 0, 1) := by decide +kernel
theorem dL_law_686 : decode cL_law 686 = .ok (.iload_n 3, 1) := by decide +kernel
theorem dL_law_687 : decode cL_law 687 = .ok (.iconst 1, 1) := by decide +kernel
theorem dL_law_688 : decode cL_law 688 = .ok (.iadd, 1) := by decide +kernel
theorem dL_law_689 : decode cL_law 689 = .ok (.iaload, 1) := by decide +kernel
theorem dL_law_690 : decode cL_law 690 = .ok (.aload_n 0, 1) := by decide +kernel
theorem dL_law_691 : decode cL_law 691 = .ok (.iload_n 3, 1) := by decide +kernel
theorem dL_law_692 : decode cL_law 692 = .ok (.iconst 2, 1) := by decide +kernel
theorem dL_law_693 : decode cL_law 693 = .ok (.iadd, 1) := by decide +kernel
theorem dL_law_694 : decode cL_law 694 = .ok (.iaload, 1) := by decide +kernel
theorem dL_law_695 : decode cL_law 695 = .ok (.aload_n 0, 1) := by decide +kernel
theorem dL_law_696 : decode cL_law 696 = .ok (.iload_n 3, 1) := by decide +kernel
theorem dL_law_697 : decode cL_law 697 = .ok (.iconst 3, 1) := by decide +kernel
theorem dL_law_698 : decode cL_law 698 = .ok (.iadd, 1) := by decide +kernel
theorem dL_law_699 : decode cL_law 699 = .ok (.iaload, 1) := by decide +kernel
theorem dL_law_700 : decode cL_law 700 = .ok (.aload_n 0, 1) := by decide +kernel
theorem dL_law_701 : decode cL_law 701 = .ok (.iload_n 3, 1) := by decide +kernel
theorem dL_law_702 : decode cL_law 702 = .ok (.iconst 4, 1) := by decide +kernel
theorem dL_law_703 : decode cL_law 703 = .ok (.iadd, 1) := by decide +kernel
theorem dL_law_704 : decode cL_law 704 = .ok (.iaload, 1) := by decide +kernel
theorem dL_law_705 : decode cL_law 705 = .ok (.invokevirtual 87, 3) := by decide +kernel
theorem dL_law_708 : decode cL_law 708 = .ok (.if_icmp .eq 664, 3) := by decide +kernel
theorem dL_law_711 : decode cL_law 711 = .ok (.iconst 0, 1) := by decide +kernel
theorem dL_law_712 : decode cL_law 712 = .ok (.ireturn, 1) := by decide +kernel
theorem dL_law_713 : decode cL_law 713 = .ok (.aload_n 1, 1) := by decide +kernel
theorem dL_law_714 : decode cL_law 714 = .ok (.aload_n 0, 1) := by decide +kernel
theorem dL_law_715 : decode cL_law 715 = .ok (.iload_n 3, 1) := by decide +kernel
theorem dL_law_716 : decode cL_law 716 = .ok (.iconst 1, 1) := by decide +kernel
theorem dL_law_717 : decode cL_law 717 = .ok (.iadd, 1) := by decide +kernel
theorem dL_law_718 : decode cL_law 718 = .ok (.iaload, 1) := by decide +kernel
theorem dL_law_719 : decode cL_law 719 = .ok (.aload_n 0, 1) := by decide +kernel
theorem dL_law_720 : decode cL_law 720 = .ok (.iload_n 3, 1) := by decide +kernel
theorem dL_law_721 : decode cL_law 721 = .ok (.iconst 2, 1) := by decide +kernel
theorem dL_law_722 : decode cL_law 722 = .ok (.iadd, 1) := by decide +kernel
theorem dL_law_723 : decode cL_law 723 = .ok (.iaload, 1) := by decide +kernel
theorem dL_law_724 : decode cL_law 724 = .ok (.aload_n 0, 1) := by decide +kernel
theorem dL_law_725 : decode cL_law 725 = .ok (.iload_n 3, 1) := by decide +kernel
theorem dL_law_726 : decode cL_law 726 = .ok (.iconst 3, 1) := by decide +kernel
theorem dL_law_727 : decode cL_law 727 = .ok (.iadd, 1) := by decide +kernel
theorem dL_law_728 : decode cL_law 728 = .ok (.iaload, 1) := by decide +kernel
theorem dL_law_729 : decode cL_law 729 = .ok (.aload_n 0, 1) := by decide +kernel
theorem dL_law_730 : decode cL_law 730 = .ok (.iload_n 3, 1) := by decide +kernel
theorem dL_law_731 : decode cL_law 731 = .ok (.iconst 4, 1) := by decide +kernel
theorem dL_law_732 : decode cL_law 732 = .ok (.iadd, 1) := by decide +kernel
theorem dL_law_733 : decode cL_law 733 = .ok (.iaload, 1) := by decide +kernel
theorem dL_law_734 : decode cL_law 734 = .ok (.aload_n 0, 1) := by decide +kernel
theorem dL_law_735 : decode cL_law 735 = .ok (.iload_n 3, 1) := by decide +kernel
theorem dL_law_736 : decode cL_law 736 = .ok (.iconst 5, 1) := by decide +kernel
theorem dL_law_737 : decode cL_law 737 = .ok (.iadd, 1) := by decide +kernel
theorem dL_law_738 : decode cL_law 738 = .ok (.iaload, 1) := by decide +kernel
theorem dL_law_739 : decode cL_law 739 = .ok (.aload_n 0, 1) := by decide +kernel
theorem dL_law_740 : decode cL_law 740 = .ok (.iload_n 3, 1) := by decide +kernel
theorem dL_law_741 : decode cL_law 741 = .ok (.bipush 6, 2) := by decide +kernel
theorem dL_law_743 : decode cL_law 743 = .ok (.iadd, 1) := by decide +kernel
theorem dL_law_744 : decode cL_law 744 = .ok (.iaload, 1) := by decide +kernel
theorem dL_law_745 : decode cL_law 745 = .ok (.invokevirtual 88, 3) := by decide +kernel
theorem dL_law_748 : decode cL_law 748 = .ok (.aload_n 2, 1) := by decide +kernel
theorem dL_law_749 : decode cL_law 749 = .ok (.aload_n 0, 1) := by decide +kernel
theorem dL_law_750 : decode cL_law 750 = .ok (.iload_n 3, 1) := by decide +kernel
theorem dL_law_751 : decode cL_law 751 = .ok (.iconst 1, 1) := by decide +kernel
theorem dL_law_752 : decode cL_law 752 = .ok (.iadd, 1) := by decide +kernel
theorem dL_law_753 : decode cL_law 753 = .ok (.iaload, 1) := by decide +kernel
theorem dL_law_754 : decode cL_law 754 = .ok (.aload_n 0, 1) := by decide +kernel
theorem dL_law_755 : decode cL_law 755 = .ok (.iload_n 3, 1) := by decide +kernel
theorem dL_law_756 : decode cL_law 756 = .ok (.iconst 2, 1) := by decide +kernel
theorem dL_law_757 : decode cL_law 757 = .ok (.iadd, 1) := by decide +kernel
theorem dL_law_758 : decode cL_law 758 = .ok (.iaload, 1) := by decide +kernel
theorem dL_law_759 : decode cL_law 759 = .ok (.aload_n 0, 1) := by decide +kernel
theorem dL_law_760 : decode cL_law 760 = .ok (.iload_n 3, 1) := by decide +kernel
theorem dL_law_761 : decode cL_law 761 = .ok (.iconst 3, 1) := by decide +kernel
theorem dL_law_762 : decode cL_law 762 = .ok (.iadd, 1) := by decide +kernel
theorem dL_law_763 : decode cL_law 763 = .ok (.iaload, 1) := by decide +kernel
theorem dL_law_764 : decode cL_law 764 = .ok (.aload_n 0, 1) := by decide +kernel
theorem dL_law_765 : decode cL_law 765 = .ok (.iload_n 3, 1) := by decide +kernel
theorem dL_law_766 : decode cL_law 766 = .ok (.iconst 4, 1) := by decide +kernel
theorem dL_law_767 : decode cL_law 767 = .ok (.iadd, 1) := by decide +kernel
theorem dL_law_768 : decode cL_law 768 = .ok (.iaload, 1) := by decide +kernel
theorem dL_law_769 : decode cL_law 769 = .ok (.aload_n 0, 1) := by decide +kernel
theorem dL_law_770 : decode cL_law 770 = .ok (.iload_n 3, 1) := by decide +kernel
theorem dL_law_771 : decode cL_law 771 = .ok (.iconst 5, 1) := by decide +kernel
theorem dL_law_772 : decode cL_law 772 = .ok (.iadd, 1) := by decide +kernel
theorem dL_law_773 : decode cL_law 773 = .ok (.iaload, 1) := by decide +kernel
theorem dL_law_774 : decode cL_law 774 = .ok (.aload_n 0, 1) := by decide +kernel
theorem dL_law_775 : decode cL_law 775 = .ok (.iload_n 3, 1) := by decide +kernel
theorem dL_law_776 : decode cL_law 776 = .ok (.bipush 6, 2) := by decide +kernel
theorem dL_law_778 : decode cL_law 778 = .ok (.iadd, 1) := by decide +kernel
theorem dL_law_779 : decode cL_law 779 = .ok (.iaload, 1) := by decide +kernel
theorem dL_law_780 : decode cL_law 780 = .ok (.invokevirtual 92, 3) := by decide +kernel
theorem dL_law_783 : decode cL_law 783 = .ok (.if_icmp .eq 589, 3) := by decide +kernel
theorem dL_law_786 : decode cL_law 786 = .ok (.iconst 0, 1) := by decide +kernel
theorem dL_law_787 : decode cL_law 787 = .ok (.ireturn, 1) := by decide +kernel
theorem dL_law_788 : decode cL_law 788 = .ok (.aload_n 1, 1) := by decide +kernel
theorem dL_law_789 : decode cL_law 789 = .ok (.aload_n 0, 1) := by decide +kernel
theorem dL_law_790 : decode cL_law 790 = .ok (.iload_n 3, 1) := by decide +kernel
theorem dL_law_791 : decode cL_law 791 = .ok (.iconst 1, 1) := by decide +kernel
theorem dL_law_792 : decode cL_law 792 = .ok (.iadd, 1) := by decide +kernel
theorem dL_law_793 : decode cL_law 793 = .ok (.iaload, 1) := by decide +kernel
theorem dL_law_794 : decode cL_law 794 = .ok (.aload_n 0, 1) := by decide +kernel
theorem dL_law_795 : decode cL_law 795 = .ok (.iload_n 3, 1) := by decide +kernel
theorem dL_law_796 : decode cL_law 796 = .ok (.iconst 2, 1) := by decide +kernel
theorem dL_law_797 : decode cL_law 797 = .ok (.iadd, 1) := by decide +kernel
theorem dL_law_798 : decode cL_law 798 = .ok (.iaload, 1) := by decide +kernel
theorem dL_law_799 : decode cL_law 799 = .ok (.invokevirtual 93, 3) := by decide +kernel
theorem dL_law_802 : decode cL_law 802 = .ok (.aload_n 2, 1) := by decide +kernel
theorem dL_law_803 : decode cL_law 803 = .ok (.aload_n 0, 1) := by decide +kernel
theorem dL_law_804 : decode cL_law 804 = .ok (.iload_n 3, 1) := by decide +kernel
theorem dL_law_805 : decode cL_law 805 = .ok (.iconst 1, 1) := by decide +kernel
theorem dL_law_806 : decode cL_law 806 = .ok (.iadd, 1) := by decide +kernel
theorem dL_law_807 : decode cL_law 807 = .ok (.iaload, 1) := by decide +kernel
theorem dL_law_808 : decode cL_law 808 = .ok (.aload_n 0, 1) := by decide +kernel
theorem dL_law_809 : decode cL_law 809 = .ok (.iload_n 3, 1) := by decide +kernel
theorem dL_law_810 : decode cL_law 810 = .ok (.iconst 2, 1) := by decide +kernel
theorem dL_law_811 : decode cL_law 811 = .ok (.iadd, 1) := by decide +kernel
theorem dL_law_812 : decode cL_law 812 = .ok (.iaload, 1) := by decide +kernel
theorem dL_law_813 : decode cL_law 813 = .ok (.invokevirtual 96, 3) := by decide +kernel
theorem dL_law_816 : decode cL_law 816 = .ok (.if_icmp .eq 556, 3) := by decide +kernel
theorem dL_law_819 : decode cL_law 819 = .ok (.iconst 0, 1) := by decide +kernel
theorem dL_law_820 : decode cL_law 820 = .ok (.ireturn, 1) := by decide +kernel
theorem dL_law_821 : decode cL_law 821 = .ok (.aload_n 1, 1) := by decide +kernel
theorem dL_law_822 : decode cL_law 822 = .ok (.aload_n 0, 1) := by decide +kernel
theorem dL_law_823 : decode cL_law 823 = .ok (.iload_n 3, 1) := by decide +kernel
theorem dL_law_824 : decode cL_law 824 = .ok (.iconst 1, 1) := by decide +kernel
theorem dL_law_825 : decode cL_law 825 = .ok (.iadd, 1) := by decide +kernel
theorem dL_law_826 : decode cL_law 826 = .ok (.iaload, 1) := by decide +kernel
theorem dL_law_827 : decode cL_law 827 = .ok (.aload_n 0, 1) := by decide +kernel
theorem dL_law_828 : decode cL_law 828 = .ok (.iload_n 3, 1) := by decide +kernel
theorem dL_law_829 : decode cL_law 829 = .ok (.iconst 2, 1) := by decide +kernel
theorem dL_law_830 : decode cL_law 830 = .ok (.iadd, 1) := by decide +kernel
theorem dL_law_831 : decode cL_law 831 = .ok (.iaload, 1) := by decide +kernel
theorem dL_law_832 : decode cL_law 832 = .ok (.aload_n 0, 1) := by decide +kernel
theorem dL_law_833 : decode cL_law 833 = .ok (.iload_n 3, 1) := by decide +kernel
theorem dL_law_834 : decode cL_law 834 = .ok (.iconst 3, 1) := by decide +kernel
theorem dL_law_835 : decode cL_law 835 = .ok (.iadd, 1) := by decide +kernel
theorem dL_law_836 : decode cL_law 836 = .ok (.iaload, 1) := by decide +kernel
theorem dL_law_837 : decode cL_law 837 = .ok (.aload_n 0, 1) := by decide +kernel
theorem dL_law_838 : decode cL_law 838 = .ok (.iload_n 3, 1) := by decide +kernel
theorem dL_law_839 : decode cL_law 839 = .ok (.iconst 4, 1) := by decide +kernel
theorem dL_law_840 : decode cL_law 840 = .ok (.iadd, 1) := by decide +kernel
theorem dL_law_841 : decode cL_law 841 = .ok (.iaload, 1) := by decide +kernel
theorem dL_law_842 : decode cL_law 842 = .ok (.invokevirtual 97, 3) := by decide +kernel
theorem dL_law_845 : decode cL_law 845 = .ok (.aload_n 2, 1) := by decide +kernel
theorem dL_law_846 : decode cL_law 846 = .ok (.aload_n 0, 1) := by decide +kernel
theorem dL_law_847 : decode cL_law 847 = .ok (.iload_n 3, 1) := by decide +kernel
theorem dL_law_848 : decode cL_law 848 = .ok (.iconst 1, 1) := by decide +kernel
theorem dL_law_849 : decode cL_law 849 = .ok (.iadd, 1) := by decide +kernel
theorem dL_law_850 : decode cL_law 850 = .ok (.iaload, 1) := by decide +kernel
theorem dL_law_851 : decode cL_law 851 = .ok (.aload_n 0, 1) := by decide +kernel
theorem dL_law_852 : decode cL_law 852 = .ok (.iload_n 3, 1) := by decide +kernel
theorem dL_law_853 : decode cL_law 853 = .ok (.iconst 2, 1) := by decide +kernel
theorem dL_law_854 : decode cL_law 854 = .ok (.iadd, 1) := by decide +kernel
theorem dL_law_855 : decode cL_law 855 = .ok (.iaload, 1) := by decide +kernel
theorem dL_law_856 : decode cL_law 856 = .ok (.aload_n 0, 1) := by decide +kernel
theorem dL_law_857 : decode cL_law 857 = .ok (.iload_n 3, 1) := by decide +kernel
theorem dL_law_858 : decode cL_law 858 = .ok (.iconst 3, 1) := by decide +kernel
theorem dL_law_859 : decode cL_law 859 = .ok (.iadd, 1) := by decide +kernel
theorem dL_law_860 : decode cL_law 860 = .ok (.iaload, 1) := by decide +kernel
theorem dL_law_861 : decode cL_law 861 = .ok (.aload_n 0, 1) := by decide +kernel
theorem dL_law_862 : decode cL_law 862 = .ok (.iload_n 3, 1) := by decide +kernel
theorem dL_law_863 : decode cL_law 863 = .ok (.iconst 4, 1) := by decide +kernel
theorem dL_law_864 : decode cL_law 864 = .ok (.iadd, 1) := by decide +kernel
theorem dL_law_865 : decode cL_law 865 = .ok (.iaload, 1) := by decide +kernel
theorem dL_law_866 : decode cL_law 866 = .ok (.invokevirtual 100, 3) := by decide +kernel
theorem dL_law_869 : decode cL_law 869 = .ok (.if_icmp .eq 503, 3) := by decide +kernel
theorem dL_law_872 : decode cL_law 872 = .ok (.iconst 0, 1) := by decide +kernel
theorem dL_law_873 : decode cL_law 873 = .ok (.ireturn, 1) := by decide +kernel
theorem dL_law_874 : decode cL_law 874 = .ok (.aload_n 1, 1) := by decide +kernel
theorem dL_law_875 : decode cL_law 875 = .ok (.aload_n 0, 1) := by decide +kernel
theorem dL_law_876 : decode cL_law 876 = .ok (.iload_n 3, 1) := by decide +kernel
theorem dL_law_877 : decode cL_law 877 = .ok (.iconst 1, 1) := by decide +kernel
theorem dL_law_878 : decode cL_law 878 = .ok (.iadd, 1) := by decide +kernel
theorem dL_law_879 : decode cL_law 879 = .ok (.iaload, 1) := by decide +kernel
theorem dL_law_880 : decode cL_law 880 = .ok (.aload_n 0, 1) := by decide +kernel
theorem dL_law_881 : decode cL_law 881 = .ok (.iload_n 3, 1) := by decide +kernel
theorem dL_law_882 : decode cL_law 882 = .ok (.iconst 2, 1) := by decide +kernel
theorem dL_law_883 : decode cL_law 883 = .ok (.iadd, 1) := by decide +kernel
theorem dL_law_884 : decode cL_law 884 = .ok (.iaload, 1) := by decide +kernel
theorem dL_law_885 : decode cL_law 885 = .ok (.aload_n 0, 1) := by decide +kernel
theorem dL_law_886 : decode cL_law 886 = .ok (.iload_n 3, 1) := by decide +kernel
theorem dL_law_887 : decode cL_law 887 = .ok (.iconst 3, 1) := by decide +kernel
theorem dL_law_888 : decode cL_law 888 = .ok (.iadd, 1) := by decide +kernel
theorem dL_law_889 : decode cL_law 889 = .ok (.iaload, 1) := by decide +kernel
theorem dL_law_890 : decode cL_law 890 = .ok (.invokevirtual 101, 3) := by decide +kernel
theorem dL_law_893 : decode cL_law 893 = .ok (.aload_n 2, 1) := by decide +kernel
theorem dL_law_894 : decode cL_law 894 = .ok (.aload_n 0, 1) := by decide +kernel
theorem dL_law_895 : decode cL_law 895 = .ok (.iload_n 3, 1) := by decide +kernel
theorem dL_law_896 : decode cL_law 896 = .ok (.iconst 1, 1) := by decide +kernel
theorem dL_law_897 : decode cL_law 897 = .ok (.iadd, 1) := by decide +kernel
theorem dL_law_898 : decode cL_law 898 = .ok (.iaload, 1) := by decide +kernel
theorem dL_law_899 : decode cL_law 899 = .ok (.aload_n 0, 1) := by decide +kernel
theorem dL_law_900 : decode cL_law 900 = .ok (.iload_n 3, 1) := by decide +kernel
theorem dL_law_901 : decode cL_law 901 = .ok (.iconst 2, 1) := by decide +kernel
theorem dL_law_902 : decode cL_law 902 = .ok (.iadd, 1) := by decide +kernel
theorem dL_law_903 : decode cL_law 903 = .ok (.iaload, 1) := by decide +kernel
theorem dL_law_904 : decode cL_law 904 = .ok (.aload_n 0, 1) := by decide +kernel
theorem dL_law_905 : decode cL_law 905 = .ok (.iload_n 3, 1) := by decide +kernel
theorem dL_law_906 : decode cL_law 906 = .ok (.iconst 3, 1) := by decide +kernel
theorem dL_law_907 : decode cL_law 907 = .ok (.iadd, 1) := by decide +kernel
theorem dL_law_908 : decode cL_law 908 = .ok (.iaload, 1) := by decide +kernel
theorem dL_law_909 : decode cL_law 909 = .ok (.invokevirtual 104, 3) := by decide +kernel
theorem dL_law_912 : decode cL_law 912 = .ok (.if_icmp .eq 460, 3) := by decide +kernel
theorem dL_law_915 : decode cL_law 915 = .ok (.iconst 0, 1) := by decide +kernel
theorem dL_law_916 : decode cL_law 916 = .ok (.ireturn, 1) := by decide +kernel
theorem dL_law_917 : decode cL_law 917 = .ok (.aload_n 1, 1) := by decide +kernel
theorem dL_law_918 : decode cL_law 918 = .ok (.aload_n 0, 1) := by decide +kernel
theorem dL_law_919 : decode cL_law 919 = .ok (.iload_n 3, 1) := by decide +kernel
theorem dL_law_920 : decode cL_law 920 = .ok (.iconst 1, 1) := by decide +kernel
theorem dL_law_921 : decode cL_law 921 = .ok (.iadd, 1) := by decide +kernel
theorem dL_law_922 : decode cL_law 922 = .ok (.iaload, 1) := by decide +kernel
theorem dL_law_923 : decode cL_law 923 = .ok (.aload_n 0, 1) := by decide +kernel
theorem dL_law_924 : decode cL_law 924 = .ok (.iload_n 3, 1) := by decide +kernel
theorem dL_law_925 : decode cL_law 925 = .ok (.iconst 2, 1) := by decide +kernel
theorem dL_law_926 : decode cL_law 926 = .ok (.iadd, 1) := by decide +kernel
theorem dL_law_927 : decode cL_law 927 = .ok (.iaload, 1) := by decide +kernel
theorem dL_law_928 : decode cL_law 928 = .ok (.aload_n 0, 1) := by decide +kernel
theorem dL_law_929 : decode cL_law 929 = .ok (.iload_n 3, 1) := by decide +kernel
theorem dL_law_930 : decode cL_law 930 = .ok (.iconst 3, 1) := by decide +kernel
theorem dL_law_931 : decode cL_law 931 = .ok (.iadd, 1) := by decide +kernel
theorem dL_law_932 : decode cL_law 932 = .ok (.iaload, 1) := by decide +kernel
theorem dL_law_933 : decode cL_law 933 = .ok (.invokevirtual 105, 3) := by decide +kernel
theorem dL_law_936 : decode cL_law 936 = .ok (.aload_n 2, 1) := by decide +kernel
theorem dL_law_937 : decode cL_law 937 = .ok (.aload_n 0, 1) := by decide +kernel
theorem dL_law_938 : decode cL_law 938 = .ok (.iload_n 3, 1) := by decide +kernel
theorem dL_law_939 : decode cL_law 939 = .ok (.iconst 1, 1) := by decide +kernel
theorem dL_law_940 : decode cL_law 940 = .ok (.iadd, 1) := by decide +kernel
theorem dL_law_941 : decode cL_law 941 = .ok (.iaload, 1) := by decide +kernel
theorem dL_law_942 : decode cL_law 942 = .ok (.aload_n 0, 1) := by decide +kernel
theorem dL_law_943 : decode cL_law 943 = .ok (.iload_n 3, 1) := by decide +kernel
theorem dL_law_944 : decode cL_law 944 = .ok (.iconst 2, 1) := by decide +kernel
theorem dL_law_945 : decode cL_law 945 = .ok (.iadd, 1) := by decide +kernel
theorem dL_law_946 : decode cL_law 946 = .ok (.iaload, 1) := by decide +kernel
theorem dL_law_947 : decode cL_law 947 = .ok (.aload_n 0, 1) := by decide +kernel
theorem dL_law_948 : decode cL_law 948 = .ok (.iload_n 3, 1) := by decide +kernel
theorem dL_law_949 : decode cL_law 949 = .ok (.iconst 3, 1) := by decide +kernel
theorem dL_law_950 : decode cL_law 950 = .ok (.iadd, 1) := by decide +kernel
theorem dL_law_951 : decode cL_law 951 = .ok (.iaload, 1) := by decide +kernel
theorem dL_law_952 : decode cL_law 952 = .ok (.invokevirtual 108, 3) := by decide +kernel
theorem dL_law_955 : decode cL_law 955 = .ok (.if_icmp .eq 417, 3) := by decide +kernel
theorem dL_law_958 : decode cL_law 958 = .ok (.iconst 0, 1) := by decide +kernel
theorem dL_law_959 : decode cL_law 959 = .ok (.ireturn, 1) := by decide +kernel
theorem dL_law_960 : decode cL_law 960 = .ok (.aload_n 1, 1) := by decide +kernel
theorem dL_law_961 : decode cL_law 961 = .ok (.aload_n 0, 1) := by decide +kernel
theorem dL_law_962 : decode cL_law 962 = .ok (.iload_n 3, 1) := by decide +kernel
theorem dL_law_963 : decode cL_law 963 = .ok (.iconst 1, 1) := by decide +kernel
theorem dL_law_964 : decode cL_law 964 = .ok (.iadd, 1) := by decide +kernel
theorem dL_law_965 : decode cL_law 965 = .ok (.iaload, 1) := by decide +kernel
theorem dL_law_966 : decode cL_law 966 = .ok (.aload_n 0, 1) := by decide +kernel
theorem dL_law_967 : decode cL_law 967 = .ok (.iload_n 3, 1) := by decide +kernel
theorem dL_law_968 : decode cL_law 968 = .ok (.iconst 2, 1) := by decide +kernel
theorem dL_law_969 : decode cL_law 969 = .ok (.iadd, 1) := by decide +kernel
theorem dL_law_970 : decode cL_law 970 = .ok (.iaload, 1) := by decide +kernel
theorem dL_law_971 : decode cL_law 971 = .ok (.aload_n 0, 1) := by decide +kernel
theorem dL_law_972 : decode cL_law 972 = .ok (.iload_n 3, 1) := by decide +kernel
theorem dL_law_973 : decode cL_law 973 = .ok (.iconst 3, 1) := by decide +kernel
theorem dL_law_974 : decode cL_law 974 = .ok (.iadd, 1) := by decide +kernel
theorem dL_law_975 : decode cL_law 975 = .ok (.iaload, 1) := by decide +kernel
theorem dL_law_976 : decode cL_law 976 = .ok (.aload_n 0, 1) := by decide +kernel
theorem dL_law_977 : decode cL_law 977 = .ok (.iload_n 3, 1) := by decide +kernel
theorem dL_law_978 : decode cL_law 978 = .ok (.iconst 4, 1) := by decide +kernel
theorem dL_law_979 : decode cL_law 979 = .ok (.iadd, 1) := by decide +kernel
theorem dL_law_980 : decode cL_law 980 = .ok (.iaload, 1) := by decide +kernel
theorem dL_law_981 : decode cL_law 981 = .ok (.aload_n 0, 1) := by decide +kernel
theorem dL_law_982 : decode cL_law 982 = .ok (.iload_n 3, 1) := by decide +kernel
theorem dL_law_983 : decode cL_law 983 = .ok (.iconst 5, 1) := by decide +kernel
theorem dL_law_984 : decode cL_law 984 = .ok (.iadd, 1) := by decide +kernel
theorem dL_law_985 : decode cL_law 985 = .ok (.iaload, 1) := by decide +kernel
theorem dL_law_986 : decode cL_law 986 = .ok (.invokevirtual 109, 3) := by decide +kernel
theorem dL_law_989 : decode cL_law 989 = .ok (.aload_n 2, 1) := by decide +kernel
theorem dL_law_990 : decode cL_law 990 = .ok (.aload_n 0, 1) := by decide +kernel
theorem dL_law_991 : decode cL_law 991 = .ok (.iload_n 3, 1) := by decide +kernel
theorem dL_law_992 : decode cL_law 992 = .ok (.iconst 1, 1) := by decide +kernel
theorem dL_law_993 : decode cL_law 993 = .ok (.iadd, 1) := by decide +kernel
theorem dL_law_994 : decode cL_law 994 = .ok (.iaload, 1) := by decide +kernel
theorem dL_law_995 : decode cL_law 995 = .ok (.aload_n 0, 1) := by decide +kernel
theorem dL_law_996 : decode cL_law 996 = .ok (.iload_n 3, 1) := by decide +kernel
theorem dL_law_997 : decode cL_law 997 = .ok (.iconst 2, 1) := by decide +kernel
theorem dL_law_998 : decode cL_law 998 = .ok (.iadd, 1) := by decide +kernel
theorem dL_law_999 : decode cL_law 999 = .ok (.iaload, 1) := by decide +kernel
theorem dL_law_1000 : decode cL_law 1000 = .ok (.aload_n 0, 1) := by decide +kernel
theorem dL_law_1001 : decode cL_law 1001 = .ok (.iload_n 3, 1) := by decide +kernel
theorem dL_law_1002 : decode cL_law 1002 = .ok (.iconst 3, 1) := by decide +kernel
theorem dL_law_1003 : decode cL_law 1003 = .ok (.iadd, 1) := by decide +kernel
theorem dL_law_1004 : decode cL_law 1004 = .ok (.iaload, 1) := by decide +kernel
theorem dL_law_1005 : decode cL_law 1005 = .ok (.aload_n 0, 1) := by decide +kernel
theorem dL_law_1006 : decode cL_law 1006 = .ok (.iload_n 3, 1) := by decide +kernel
theorem dL_law_1007 : decode cL_law 1007 = .ok (.iconst 4, 1) := by decide +kernel
theorem dL_law_1008 : decode cL_law 1008 = .ok (.iadd, 1) := by decide +kernel
theorem dL_law_1009 : decode cL_law 1009 = .ok (.iaload, 1) := by decide +kernel
theorem dL_law_1010 : decode cL_law 1010 = .ok (.aload_n 0, 1) := by decide +kernel
theorem dL_law_1011 : decode cL_law 1011 = .ok (.iload_n 3, 1) := by decide +kernel
theorem dL_law_1012 : decode cL_law 1012 = .ok (.iconst 5, 1) := by decide +kernel
theorem dL_law_1013 : decode cL_law 1013 = .ok (.iadd, 1) := by decide +kernel
theorem dL_law_1014 : decode cL_law 1014 = .ok (.iaload, 1) := by decide +kernel
theorem dL_law_1015 : decode cL_law 1015 = .ok (.invokevirtual 112, 3) := by decide +kernel
theorem dL_law_1018 : decode cL_law 1018 = .ok (.if_icmp .eq 354, 3) := by decide +kernel
theorem dL_law_1021 : decode cL_law 1021 = .ok (.iconst 0, 1) := by decide +kernel
theorem dL_law_1022 : decode cL_law 1022 = .ok (.ireturn, 1) := by decide +kernel
theorem dL_law_1023 : decode cL_law 1023 = .ok (.aload_n 1, 1) := by decide +kernel
theorem dL_law_1024 : decode cL_law 1024 = .ok (.aload_n 0, 1) := by decide +kernel
theorem dL_law_1025 : decode cL_law 1025 = .ok (.iload_n 3, 1) := by decide +kernel
theorem dL_law_1026 : decode cL_law 1026 = .ok (.iconst 1, 1) := by decide +kernel
theorem dL_law_1027 : decode cL_law 1027 = .ok (.iadd, 1) := by decide +kernel
theorem dL_law_1028 : decode cL_law 1028 = .ok (.iaload, 1) := by decide +kernel
theorem dL_law_1029 : decode cL_law 1029 = .ok (.aload_n 0, 1) := by decide +kernel
theorem dL_law_1030 : decode cL_law 1030 = .ok (.iload_n 3, 1) := by decide +kernel
theorem dL_law_1031 : decode cL_law 1031 = .ok (.iconst 2, 1) := by decide +kernel
theorem dL_law_1032 : decode cL_law 1032 = .ok (.iadd, 1) := by decide +kernel
theorem dL_law_1033 : decode cL_law 1033 = .ok (.iaload, 1) := by decide +kernel
theorem dL_law_1034 : decode cL_law 1034 = .ok (.aload_n 0, 1) := by decide +kernel
theorem dL_law_1035 : decode cL_law 1035 = .ok (.iload_n 3, 1) := by decide +kernel
theorem dL_law_1036 : decode cL_law 1036 = .ok (.iconst 3, 1) := by decide +kernel
theorem dL_law_1037 : decode cL_law 1037 = .ok (.iadd, 1) := by decide +kernel
theorem dL_law_1038 : decode cL_law 1038 = .ok (.iaload, 1) := by decide +kernel
theorem dL_law_1039 : decode cL_law 1039 = .ok (.aload_n 0, 1) := by decide +kernel
theorem dL_law_1040 : decode cL_law 1040 = .ok (.iload_n 3, 1) := by decide +kernel
theorem dL_law_1041 : decode cL_law 1041 = .ok (.iconst 4, 1) := by decide +kernel
theorem dL_law_1042 : decode cL_law 1042 = .ok (.iadd, 1) := by decide +kernel
theorem dL_law_1043 : decode cL_law 1043 = .ok (.iaload, 1) := by decide +kernel
theorem dL_law_1044 : decode cL_law 1044 = .ok (.invokevirtual 113, 3) := by decide +kernel
theorem dL_law_1047 : decode cL_law 1047 = .ok (.aload_n 2, 1) := by decide +kernel
theorem dL_law_1048 : decode cL_law 1048 = .ok (.aload_n 0, 1) := by decide +kernel
theorem dL_law_1049 : decode cL_law 1049 = .ok (.iload_n 3, 1) := by decide +kernel
theorem dL_law_1050 : decode cL_law 1050 = .ok (.iconst 1, 1) := by decide +kernel
theorem dL_law_1051 : decode cL_law 1051 = .ok (.iadd, 1) := by decide +kernel
theorem dL_law_1052 : decode cL_law 1052 = .ok (.iaload, 1) := by decide +kernel
theorem dL_law_1053 : decode cL_law 1053 = .ok (.aload_n 0, 1) := by decide +kernel
theorem dL_law_1054 : decode cL_law 1054 = .ok (.iload_n 3, 1) := by decide +kernel
theorem dL_law_1055 : decode cL_law 1055 = .ok (.iconst 2, 1) := by decide +kernel
theorem dL_law_1056 : decode cL_law 1056 = .ok (.iadd, 1) := by decide +kernel
theorem dL_law_1057 : decode cL_law 1057 = .ok (.iaload, 1) := by decide +kernel
theorem dL_law_1058 : decode cL_law 1058 = .ok (.aload_n 0, 1) := by decide +kernel
theorem dL_law_1059 : decode cL_law 1059 = .ok (.iload_n 3, 1) := by decide +kernel
theorem dL_law_1060 : decode cL_law 1060 = .ok (.iconst 3, 1) := by decide +kernel
theorem dL_law_1061 : decode cL_law 1061 = .ok (.iadd, 1) := by decide +kernel
theorem dL_law_1062 : decode cL_law 1062 = .ok (.iaload, 1) := by decide +kernel
theorem dL_law_1063 : decode cL_law 1063 = .ok (.aload_n 0, 1) := by decide +kernel
theorem dL_law_1064 : decode cL_law 1064 = .ok (.iload_n 3, 1) := by decide +kernel
theorem dL_law_1065 : decode cL_law 1065 = .ok (.iconst 4, 1) := by decide +kernel
theorem dL_law_1066 : decode cL_law 1066 = .ok (.iadd, 1) := by decide +kernel
theorem dL_law_1067 : decode cL_law 1067 = .ok (.iaload, 1) := by decide +kernel
theorem dL_law_1068 : decode cL_law 1068 = .ok (.invokevirtual 116, 3) := by decide +kernel
theorem dL_law_1071 : decode cL_law 1071 = .ok (.if_icmp .eq 301, 3) := by decide +kernel
theorem dL_law_1074 : decode cL_law 1074 = .ok (.iconst 0, 1) := by decide +kernel
theorem dL_law_1075 : decode cL_law 1075 = .ok (.ireturn, 1) := by decide +kernel
theorem dL_law_1076 : decode cL_law 1076 = .ok (.aload_n 1, 1) := by decide +kernel
theorem dL_law_1077 : decode cL_law 1077 = .ok (.aload_n 0, 1) := by decide +kernel
theorem dL_law_1078 : decode cL_law 1078 = .ok (.iload_n 3, 1) := by decide +kernel
theorem dL_law_1079 : decode cL_law 1079 = .ok (.iconst 1, 1) := by decide +kernel
theorem dL_law_1080 : decode cL_law 1080 = .ok (.iadd, 1) := by decide +kernel
theorem dL_law_1081 : decode cL_law 1081 = .ok (.iaload, 1) := by decide +kernel
theorem dL_law_1082 : decode cL_law 1082 = .ok (.aload_n 0, 1) := by decide +kernel
theorem dL_law_1083 : decode cL_law 1083 = .ok (.iload_n 3, 1) := by decide +kernel
theorem dL_law_1084 : decode cL_law 1084 = .ok (.iconst 2, 1) := by decide +kernel
theorem dL_law_1085 : decode cL_law 1085 = .ok (.iadd, 1) := by decide +kernel
theorem dL_law_1086 : decode cL_law 1086 = .ok (.iaload, 1) := by decide +kernel
theorem dL_law_1087 : decode cL_law 1087 = .ok (.aload_n 0, 1) := by decide +kernel
theorem dL_law_1088 : decode cL_law 1088 = .ok (.iload_n 3, 1) := by decide +kernel
theorem dL_law_1089 : decode cL_law 1089 = .ok (.iconst 3, 1) := by decide +kernel
theorem dL_law_1090 : decode cL_law 1090 = .ok (.iadd, 1) := by decide +kernel
theorem dL_law_1091 : decode cL_law 1091 = .ok (.iaload, 1) := by decide +kernel
theorem dL_law_1092 : decode cL_law 1092 = .ok (.aload_n 0, 1) := by decide +kernel
theorem dL_law_1093 : decode cL_law 1093 = .ok (.iload_n 3, 1) := by decide +kernel
theorem dL_law_1094 : decode cL_law 1094 = .ok (.iconst 4, 1) := by decide +kernel
theorem dL_law_1095 : decode cL_law 1095 = .ok (.iadd, 1) := by decide +kernel
theorem dL_law_1096 : decode cL_law 1096 = .ok (.iaload, 1) := by decide +kernel
theorem dL_law_1097 : decode cL_law 1097 = .ok (.aload_n 0, 1) := by decide +kernel
theorem dL_law_1098 : decode cL_law 1098 = .ok (.iload_n 3, 1) := by decide +kernel
theorem dL_law_1099 : decode cL_law 1099 = .ok (.iconst 5, 1) := by decide +kernel
theorem dL_law_1100 : decode cL_law 1100 = .ok (.iadd, 1) := by decide +kernel
theorem dL_law_1101 : decode cL_law 1101 = .ok (.iaload, 1) := by decide +kernel
theorem dL_law_1102 : decode cL_law 1102 = .ok (.invokevirtual 117, 3) := by decide +kernel
theorem dL_law_1105 : decode cL_law 1105 = .ok (.aload_n 2, 1) := by decide +kernel
theorem dL_law_1106 : decode cL_law 1106 = .ok (.aload_n 0, 1) := by decide +kernel
theorem dL_law_1107 : decode cL_law 1107 = .ok (.iload_n 3, 1) := by decide +kernel
theorem dL_law_1108 : decode cL_law 1108 = .ok (.iconst 1, 1) := by decide +kernel
theorem dL_law_1109 : decode cL_law 1109 = .ok (.iadd, 1) := by decide +kernel
theorem dL_law_1110 : decode cL_law 1110 = .ok (.iaload, 1) := by decide +kernel
theorem dL_law_1111 : decode cL_law 1111 = .ok (.aload_n 0, 1) := by decide +kernel
theorem dL_law_1112 : decode cL_law 1112 = .ok (.iload_n 3, 1) := by decide +kernel
theorem dL_law_1113 : decode cL_law 1113 = .ok (.iconst 2, 1) := by decide +kernel
theorem dL_law_1114 : decode cL_law 1114 = .ok (.iadd, 1) := by decide +kernel
theorem dL_law_1115 : decode cL_law 1115 = .ok (.iaload, 1) := by decide +kernel
theorem dL_law_1116 : decode cL_law 1116 = .ok (.aload_n 0, 1) := by decide +kernel
theorem dL_law_1117 : decode cL_law 1117 = .ok (.iload_n 3, 1) := by decide +kernel
theorem dL_law_1118 : decode cL_law 1118 = .ok (.iconst 3, 1) := by decide +kernel
theorem dL_law_1119 : decode cL_law 1119 = .ok (.iadd, 1) := by decide +kernel
theorem dL_law_1120 : decode cL_law 1120 = .ok (.iaload, 1) := by decide +kernel
theorem dL_law_1121 : decode cL_law 1121 = .ok (.aload_n 0, 1) := by decide +kernel
theorem dL_law_1122 : decode cL_law 1122 = .ok (.iload_n 3, 1) := by decide +kernel
theorem dL_law_1123 : decode cL_law 1123 = .ok (.iconst 4, 1) := by decide +kernel
theorem dL_law_1124 : decode cL_law 1124 = .ok (.iadd, 1) := by decide +kernel
theorem dL_law_1125 : decode cL_law 1125 = .ok (.iaload, 1) := by decide +kernel
theorem dL_law_1126 : decode cL_law 1126 = .ok (.aload_n 0, 1) := by decide +kernel
theorem dL_law_1127 : decode cL_law 1127 = .ok (.iload_n 3, 1) := by decide +kernel
theorem dL_law_1128 : decode cL_law 1128 = .ok (.iconst 5, 1) := by decide +kernel
theorem dL_law_1129 : decode cL_law 1129 = .ok (.iadd, 1) := by decide +kernel
theorem dL_law_1130 : decode cL_law 1130 = .ok (.iaload, 1) := by decide +kernel
theorem dL_law_1131 : decode cL_law 1131 = .ok (.invokevirtual 120, 3) := by decide +kernel
theorem dL_law_1134 : decode cL_law 1134 = .ok (.if_icmp .eq 238, 3) := by decide +kernel
theorem dL_law_1137 : decode cL_law 1137 = .ok (.iconst 0, 1) := by decide +kernel
theorem dL_law_1138 : decode cL_law 1138 = .ok (.ireturn, 1) := by decide +kernel
theorem dL_law_1139 : decode cL_law 1139 = .ok (.aload_n 1, 1) := by decide +kernel
theorem dL_law_1140 : decode cL_law 1140 = .ok (.aload_n 0, 1) := by decide +kernel
theorem dL_law_1141 : decode cL_law 1141 = .ok (.iload_n 3, 1) := by decide +kernel
theorem dL_law_1142 : decode cL_law 1142 = .ok (.iconst 1, 1) := by decide +kernel
theorem dL_law_1143 : decode cL_law 1143 = .ok (.iadd, 1) := by decide +kernel
theorem dL_law_1144 : decode cL_law 1144 = .ok (.iaload, 1) := by decide +kernel
theorem dL_law_1145 : decode cL_law 1145 = .ok (.aload_n 0, 1) := by decide +kernel
theorem dL_law_1146 : decode cL_law 1146 = .ok (.iload_n 3, 1) := by decide +kernel
theorem dL_law_1147 : decode cL_law 1147 = .ok (.iconst 2, 1) := by decide +kernel
theorem dL_law_1148 : decode cL_law 1148 = .ok (.iadd, 1) := by decide +kernel
theorem dL_law_1149 : decode cL_law 1149 = .ok (.iaload, 1) := by decide +kernel
theorem dL_law_1150 : decode cL_law 1150 = .ok (.aload_n 0, 1) := by decide +kernel
theorem dL_law_1151 : decode cL_law 1151 = .ok (.iload_n 3, 1) := by decide +kernel
theorem dL_law_1152 : decode cL_law 1152 = .ok (.iconst 3, 1) := by decide +kernel
theorem dL_law_1153 : decode cL_law 1153 = .ok (.iadd, 1) := by decide +kernel
theorem dL_law_1154 : decode cL_law 1154 = .ok (.iaload, 1) := by decide +kernel
theorem dL_law_1155 : decode cL_law 1155 = .ok (.aload_n 0, 1) := by decide +kernel
theorem dL_law_1156 : decode cL_law 1156 = .ok (.iload_n 3, 1) := by decide +kernel
theorem dL_law_1157 : decode cL_law 1157 = .ok (.iconst 4, 1) := by decide +kernel
theorem dL_law_1158 : decode cL_law 1158 = .ok (.iadd, 1) := by decide +kernel
theorem dL_law_1159 : decode cL_law 1159 = .ok (.iaload, 1) := by decide +kernel
theorem dL_law_1160 : decode cL_law 1160 = .ok (.invokevirtual 121, 3) := by decide +kernel
theorem dL_law_1163 : decode cL_law 1163 = .ok (.aload_n 2, 1) := by decide +kernel
theorem dL_law_1164 : decode cL_law 1164 = .ok (.aload_n 0, 1) := by decide +kernel
theorem dL_law_1165 : decode cL_law 1165 = .ok (.iload_n 3, 1) := by decide +kernel
theorem dL_law_1166 : decode cL_law 1166 = .ok (.iconst 1, 1) := by decide +kernel
theorem dL_law_1167 : decode cL_law 1167 = .ok (.iadd, 1) := by decide +kernel
theorem dL_law_1168 : decode cL_law 1168 = .ok (.iaload, 1) := by decide +kernel
theorem dL_law_1169 : decode cL_law 1169 = .ok (.aload_n 0, 1) := by decide +kernel
theorem dL_law_1170 : decode cL_law 1170 = .ok (.iload_n 3, 1) := by decide +kernel
theorem dL_law_1171 : decode cL_law 1171 = .ok (.iconst 2, 1) := by decide +kernel
theorem dL_law_1172 : decode cL_law 1172 = .ok (.iadd, 1) := by decide +kernel
theorem dL_law_1173 : decode cL_law 1173 = .ok (.iaload, 1) := by decide +kernel
theorem dL_law_1174 : decode cL_law 1174 = .ok (.aload_n 0, 1) := by decide +kernel
theorem dL_law_1175 : decode cL_law 1175 = .ok (.iload_n 3, 1) := by decide +kernel
theorem dL_law_1176 : decode cL_law 1176 = .ok (.iconst 3, 1) := by decide +kernel
theorem dL_law_1177 : decode cL_law 1177 = .ok (.iadd, 1) := by decide +kernel
theorem dL_law_1178 : decode cL_law 1178 = .ok (.iaload, 1) := by decide +kernel
theorem dL_law_1179 : decode cL_law 1179 = .ok (.aload_n 0, 1) := by decide +kernel
theorem dL_law_1180 : decode cL_law 1180 = .ok (.iload_n 3, 1) := by decide +kernel
theorem dL_law_1181 : decode cL_law 1181 = .ok (.iconst 4, 1) := by decide +kernel
theorem dL_law_1182 : decode cL_law 1182 = .ok (.iadd, 1) := by decide +kernel
theorem dL_law_1183 : decode cL_law 1183 = .ok (.iaload, 1) := by decide +kernel
theorem dL_law_1184 : decode cL_law 1184 = .ok (.invokevirtual 124, 3) := by decide +kernel
theorem dL_law_1187 : decode cL_law 1187 = .ok (.if_icmp .eq 185, 3) := by decide +kernel
theorem dL_law_1190 : decode cL_law 1190 = .ok (.iconst 0, 1) := by decide +kernel
theorem dL_law_1191 : decode cL_law 1191 = .ok (.ireturn, 1) := by decide +kernel
theorem dL_law_1192 : decode cL_law 1192 = .ok (.aload_n 1, 1) := by decide +kernel
theorem dL_law_1193 : decode cL_law 1193 = .ok (.aload_n 0, 1) := by decide +kernel
theorem dL_law_1194 : decode cL_law 1194 = .ok (.iload_n 3, 1) := by decide +kernel
theorem dL_law_1195 : decode cL_law 1195 = .ok (.iconst 1, 1) := by decide +kernel
theorem dL_law_1196 : decode cL_law 1196 = .ok (.iadd, 1) := by decide +kernel
theorem dL_law_1197 : decode cL_law 1197 = .ok (.iaload, 1) := by decide +kernel
theorem dL_law_1198 : decode cL_law 1198 = .ok (.invokevirtual 125, 3) := by decide +kernel
theorem dL_law_1201 : decode cL_law 1201 = .ok (.aload_n 2, 1) := by decide +kernel
theorem dL_law_1202 : decode cL_law 1202 = .ok (.aload_n 0, 1) := by decide +kernel
theorem dL_law_1203 : decode cL_law 1203 = .ok (.iload_n 3, 1) := by decide +kernel
theorem dL_law_1204 : decode cL_law 1204 = .ok (.iconst 1, 1) := by decide +kernel
theorem dL_law_1205 : decode cL_law 1205 = .ok (.iadd, 1) := by decide +kernel
theorem dL_law_1206 : decode cL_law 1206 = .ok (.iaload, 1) := by decide +kernel
theorem dL_law_1207 : decode cL_law 1207 = .ok (.invokevirtual 128, 3) := by decide +kernel
theorem dL_law_1210 : decode cL_law 1210 = .ok (.if_icmp .eq 162, 3) := by decide +kernel
theorem dL_law_1213 : decode cL_law 1213 = .ok (.iconst 0, 1) := by decide +kernel
theorem dL_law_1214 : decode cL_law 1214 = .ok (.ireturn, 1) := by decide +kernel
theorem dL_law_1215 : decode cL_law 1215 = .ok (.aload_n 1, 1) := by decide +kernel
theorem dL_law_1216 : decode cL_law 1216 = .ok (.invokevirtual 129, 3) := by decide +kernel
theorem dL_law_1219 : decode cL_law 1219 = .ok (.aload_n 2, 1) := by decide +kernel
theorem dL_law_1220 : decode cL_law 1220 = .ok (.invokevirtual 132, 3) := by decide +kernel
theorem dL_law_1223 : decode cL_law 1223 = .ok (.if_icmp .eq 149, 3) := by decide +kernel
theorem dL_law_1226 : decode cL_law 1226 = .ok (.iconst 0, 1) := by decide +kernel
theorem dL_law_1227 : decode cL_law 1227 = .ok (.ireturn, 1) := by decide +kernel
theorem dL_law_1228 : decode cL_law 1228 = .ok (.aload_n 1, 1) := by decide +kernel
theorem dL_law_1229 : decode cL_law 1229 = .ok (.aload_n 0, 1) := by decide +kernel
theorem dL_law_1230 : decode cL_law 1230 = .ok (.iload_n 3, 1) := by decide +kernel
theorem dL_law_1231 : decode cL_law 1231 = .ok (.iconst 1, 1) := by decide +kernel
theorem dL_law_1232 : decode cL_law 1232 = .ok (.iadd, 1) := by decide +kernel
theorem dL_law_1233 : decode cL_law 1233 = .ok (.iaload, 1) := by decide +kernel
theorem dL_law_1234 : decode cL_law 1234 = .ok (.aload_n 0, 1) := by decide +kernel
theorem dL_law_1235 : decode cL_law 1235 = .ok (.iload_n 3, 1) := by decide +kernel
theorem dL_law_1236 : decode cL_law 1236 = .ok (.iconst 2, 1) := by decide +kernel
theorem dL_law_1237 : decode cL_law 1237 = .ok (.iadd, 1) := by decide +kernel
theorem dL_law_1238 : decode cL_law 1238 = .ok (.iaload, 1) := by decide +kernel
theorem dL_law_1239 : decode cL_law 1239 = .ok (.aload_n 0, 1) := by decide +kernel
theorem dL_law_1240 : decode cL_law 1240 = .ok (.iload_n 3, 1) := by decide +kernel
theorem dL_law_1241 : decode cL_law 1241 = .ok (.iconst 3, 1) := by decide +kernel
theorem dL_law_1242 : decode cL_law 1242 = .ok (.iadd, 1) := by decide +kernel
theorem dL_law_1243 : decode cL_law 1243 = .ok (.iaload, 1) := by decide +kernel
theorem dL_law_1244 : decode cL_law 1244 = .ok (.aload_n 0, 1) := by decide +kernel
theorem dL_law_1245 : decode cL_law 1245 = .ok (.iload_n 3, 1) := by decide +kernel
theorem dL_law_1246 : decode cL_law 1246 = .ok (.iconst 4, 1) := by decide +kernel
theorem dL_law_1247 : decode cL_law 1247 = .ok (.iadd, 1) := by decide +kernel
theorem dL_law_1248 : decode cL_law 1248 = .ok (.iaload, 1) := by decide +kernel
theorem dL_law_1249 : decode cL_law 1249 = .ok (.aload_n 0, 1) := by decide +kernel
theorem dL_law_1250 : decode cL_law 1250 = .ok (.iload_n 3, 1) := by decide +kernel
theorem dL_law_1251 : decode cL_law 1251 = .ok (.iconst 5, 1) := by decide +kernel
theorem dL_law_1252 : decode cL_law 1252 = .ok (.iadd, 1) := by decide +kernel
theorem dL_law_1253 : decode cL_law 1253 = .ok (.iaload, 1) := by decide +kernel
theorem dL_law_1254 : decode cL_law 1254 = .ok (.aload_n 0, 1) := by decide +kernel
theorem dL_law_1255 : decode cL_law 1255 = .ok (.iload_n 3, 1) := by decide +kernel
theorem dL_law_1256 : decode cL_law 1256 = .ok (.bipush 6, 2) := by decide +kernel
theorem dL_law_1258 : decode cL_law 1258 = .ok (.iadd, 1) := by decide +kernel
theorem dL_law_1259 : decode cL_law 1259 = .ok (.iaload, 1) := by decide +kernel
theorem dL_law_1260 : decode cL_law 1260 = .ok (.invokevirtual 133, 3) := by decide +kernel
theorem dL_law_1263 : decode cL_law 1263 = .ok (.aload_n 2, 1) := by decide +kernel
theorem dL_law_1264 : decode cL_law 1264 = .ok (.aload_n 0, 1) := by decide +kernel
theorem dL_law_1265 : decode cL_law 1265 = .ok (.iload_n 3, 1) := by decide +kernel
theorem dL_law_1266 : decode cL_law 1266 = .ok (.iconst 1, 1) := by decide +kernel
theorem dL_law_1267 : decode cL_law 1267 = .ok (.iadd, 1) := by decide +kernel
theorem dL_law_1268 : decode cL_law 1268 = .ok (.iaload, 1) := by decide +kernel
theorem dL_law_1269 : decode cL_law 1269 = .ok (.aload_n 0, 1) := by decide +kernel
theorem dL_law_1270 : decode cL_law 1270 = .ok (.iload_n 3, 1) := by decide +kernel
theorem dL_law_1271 : decode cL_law 1271 = .ok (.iconst 2, 1) := by decide +kernel
theorem dL_law_1272 : decode cL_law 1272 = .ok (.iadd, 1) := by decide +kernel
theorem dL_law_1273 : decode cL_law 1273 = .ok (.iaload, 1) := by decide +kernel
theorem dL_law_1274 : decode cL_law 1274 = .ok (.aload_n 0, 1) := by decide +kernel
theorem dL_law_1275 : decode cL_law 1275 = .ok (.iload_n 3, 1) := by decide +kernel
theorem dL_law_1276 : decode cL_law 1276 = .ok (.iconst 3, 1) := by decide +kernel
theorem dL_law_1277 : decode cL_law 1277 = .ok (.iadd, 1) := by decide +kernel
theorem dL_law_1278 : decode cL_law 1278 = .ok (.iaload, 1) := by decide +kernel
theorem dL_law_1279 : decode cL_law 1279 = .ok (.aload_n 0, 1) := by decide +kernel
theorem dL_law_1280 : decode cL_law 1280 = .ok (.iload_n 3, 1) := by decide +kernel
theorem dL_law_1281 : decode cL_law 1281 = .ok (.iconst 4, 1) := by decide +kernel
theorem dL_law_1282 : decode cL_law 1282 = .ok (.iadd, 1) := by decide +kernel
theorem dL_law_1283 : decode cL_law 1283 = .ok (.iaload, 1) := by decide +kernel
theorem dL_law_1284 : decode cL_law 1284 = .ok (.aload_n 0, 1) := by decide +kernel
theorem dL_law_1285 : decode cL_law 1285 = .ok (.iload_n 3, 1) := by decide +kernel
theorem dL_law_1286 : decode cL_law 1286 = .ok (.iconst 5, 1) := by decide +kernel
theorem dL_law_1287 : decode cL_law 1287 = .ok (.iadd, 1) := by decide +kernel
theorem dL_law_1288 : decode cL_law 1288 = .ok (.iaload, 1) := by decide +kernel
theorem dL_law_1289 : decode cL_law 1289 = .ok (.aload_n 0, 1) := by decide +kernel
theorem dL_law_1290 : decode cL_law 1290 = .ok (.iload_n 3, 1) := by decide +kernel
theorem dL_law_1291 : decode cL_law 1291 = .ok (.bipush 6, 2) := by decide +kernel
theorem dL_law_1293 : decode cL_law 1293 = .ok (.iadd, 1) := by decide +kernel
theorem dL_law_1294 : decode cL_law 1294 = .ok (.iaload, 1) := by decide +kernel
theorem dL_law_1295 : decode cL_law 1295 = .ok (.invokevirtual 136, 3) := by decide +kernel
theorem dL_law_1298 : decode cL_law 1298 = .ok (.if_icmp .eq 74, 3) := by decide +kernel
theorem dL_law_1301 : decode cL_law 1301 = .ok (.iconst 0, 1) := by decide +kernel
theorem dL_law_1302 : decode cL_law 1302 = .ok (.ireturn, 1) := by decide +kernel
theorem dL_law_1303 : decode cL_law 1303 = .ok (.aload_n 1, 1) := by decide +kernel
theorem dL_law_1304 : decode cL_law 1304 = .ok (.aload_n 0, 1) := by decide +kernel
theorem dL_law_1305 : decode cL_law 1305 = .ok (.iload_n 3, 1) := by decide +kernel
theorem dL_law_1306 : decode cL_law 1306 = .ok (.iconst 1, 1) := by decide +kernel
theorem dL_law_1307 : decode cL_law 1307 = .ok (.iadd, 1) := by decide +kernel
theorem dL_law_1308 : decode cL_law 1308 = .ok (.iaload, 1) := by decide +kernel
theorem dL_law_1309 : decode cL_law 1309 = .ok (.invokevirtual 137, 3) := by decide +kernel
theorem dL_law_1312 : decode cL_law 1312 = .ok (.aload_n 2, 1) := by decide +kernel
theorem dL_law_1313 : decode cL_law 1313 = .ok (.aload_n 0, 1) := by decide +kernel
theorem dL_law_1314 : decode cL_law 1314 = .ok (.iload_n 3, 1) := by decide +kernel
theorem dL_law_1315 : decode cL_law 1315 = .ok (.iconst 1, 1) := by decide +kernel
theorem dL_law_1316 : decode cL_law 1316 = .ok (.iadd, 1) := by decide +kernel
theorem dL_law_1317 : decode cL_law 1317 = .ok (.iaload, 1) := by decide +kernel
theorem dL_law_1318 : decode cL_law 1318 = .ok (.invokevirtual 140, 3) := by decide +kernel
theorem dL_law_1321 : decode cL_law 1321 = .ok (.if_icmp .eq 51, 3) := by decide +kernel
theorem dL_law_1324 : decode cL_law 1324 = .ok (.iconst 0, 1) := by decide +kernel
theorem dL_law_1325 : decode cL_law 1325 = .ok (.ireturn, 1) := by decide +kernel
theorem dL_law_1326 : decode cL_law 1326 = .ok (.aload_n 1, 1) := by decide +kernel
theorem dL_law_1327 : decode cL_law 1327 = .ok (.aload_n 0, 1) := by decide +kernel
theorem dL_law_1328 : decode cL_law 1328 = .ok (.iload_n 3, 1) := by decide +kernel
theorem dL_law_1329 : decode cL_law 1329 = .ok (.iconst 1, 1) := by decide +kernel
theorem dL_law_1330 : decode cL_law 1330 = .ok (.iadd, 1) := by decide +kernel
theorem dL_law_1331 : decode cL_law 1331 = .ok (.iaload, 1) := by decide +kernel
theorem dL_law_1332 : decode cL_law 1332 = .ok (.invokevirtual 141, 3) := by decide +kernel
theorem dL_law_1335 : decode cL_law 1335 = .ok (.aload_n 2, 1) := by decide +kernel
theorem dL_law_1336 : decode cL_law 1336 = .ok (.aload_n 0, 1) := by decide +kernel
theorem dL_law_1337 : decode cL_law 1337 = .ok (.iload_n 3, 1) := by decide +kernel
theorem dL_law_1338 : decode cL_law 1338 = .ok (.iconst 1, 1) := by decide +kernel
theorem dL_law_1339 : decode cL_law 1339 = .ok (.iadd, 1) := by decide +kernel
theorem dL_law_1340 : decode cL_law 1340 = .ok (.iaload, 1) := by decide +kernel
theorem dL_law_1341 : decode cL_law 1341 = .ok (.invokevirtual 144, 3) := by decide +kernel
theorem dL_law_1344 : decode cL_law 1344 = .ok (.if_icmp .eq 28, 3) := by decide +kernel
theorem dL_law_1347 : decode cL_law 1347 = .ok (.iconst 0, 1) := by decide +kernel
theorem dL_law_1348 : decode cL_law 1348 = .ok (.ireturn, 1) := by decide +kernel
theorem dL_law_1349 : decode cL_law 1349 = .ok (.aload_n 1, 1) := by decide +kernel
theorem dL_law_1350 : decode cL_law 1350 = .ok (.aload_n 0, 1) := by decide +kernel
theorem dL_law_1351 : decode cL_law 1351 = .ok (.iload_n 3, 1) := by decide +kernel
theorem dL_law_1352 : decode cL_law 1352 = .ok (.iconst 1, 1) := by decide +kernel
theorem dL_law_1353 : decode cL_law 1353 = .ok (.iadd, 1) := by decide +kernel
theorem dL_law_1354 : decode cL_law 1354 = .ok (.iaload, 1) := by decide +kernel
theorem dL_law_1355 : decode cL_law 1355 = .ok (.invokevirtual 145, 3) := by decide +kernel
theorem dL_law_1358 : decode cL_law 1358 = .ok (.aload_n 2, 1) := by decide +kernel
theorem dL_law_1359 : decode cL_law 1359 = .ok (.aload_n 0, 1) := by decide +kernel
theorem dL_law_1360 : decode cL_law 1360 = .ok (.iload_n 3, 1) := by decide +kernel
theorem dL_law_1361 : decode cL_law 1361 = .ok (.iconst 1, 1) := by decide +kernel
theorem dL_law_1362 : decode cL_law 1362 = .ok (.iadd, 1) := by decide +kernel
theorem dL_law_1363 : decode cL_law 1363 = .ok (.iaload, 1) := by decide +kernel
theorem dL_law_1364 : decode cL_law 1364 = .ok (.invokevirtual 148, 3) := by decide +kernel
theorem dL_law_1367 : decode cL_law 1367 = .ok (.if_icmp .eq 5, 3) := by decide +kernel
theorem dL_law_1370 : decode cL_law 1370 = .ok (.iconst 0, 1) := by decide +kernel
theorem dL_law_1371 : decode cL_law 1371 = .ok (.ireturn, 1) := by decide +kernel
theorem dL_law_1372 : decode cL_law 1372 = .ok (.iinc 3 7, 3) := by decide +kernel
theorem dL_law_1375 : decode cL_law 1375 = .ok (.goto (-1357), 3) := by decide +kernel
theorem dL_law_1378 : decode cL_law 1378 = .ok (.iconst 1, 1) := by decide +kernel
theorem dL_law_1379 : decode cL_law 1379 = .ok (.ireturn, 1) := by decide +kernel
