theorem dX11_numberHere_57 : decode cX11_numberHere 57 = .ok (.iload 4, 2) := by decide +kernel
theorem dX11_numberHere_59 : decode cX11_numberHere 59 = .ok (.imul, 1) := by decide +kernel
theorem dX11_numberHere_60 : decode cX11_numberHere 60 = .ok (.aload_n 0, 1) := by decide +kernel
theorem dX11_numberHere_61 : decode cX11_numberHere 61 = .ok (.getfield 7, 3) := by decide +kernel
theorem dX11_numberHere_64 : decode cX11_numberHere 64 = .ok (.aload_n 0, 1) := by decide +kernel
theorem dX11_numberHere_65 : decode cX11_numberHere 65 = .ok (.getfield 81, 3) := by decide +kernel
theorem dX11_numberHere_68 : decode cX11_numberHere 68 = .ok (.baload, 1) := by decide +kernel
theorem dX11_numberHere_69 : decode cX11_numberHere 69 = .ok (.iadd, 1) := by decide +kernel
theorem dX11_numberHere_70 : decode cX11_numberHere 70 = .ok (.bipush 48, 2) := by decide +kernel
theorem dX11_numberHere_72 : decode cX11_numberHere 72 = .ok (.isub, 1) := by decide +kernel
theorem dX11_numberHere_73 : decode cX11_numberHere 73 = .ok (.istore 4, 2) := by decide +kernel
theorem dX11_numberHere_75 : decode cX11_numberHere 75 = .ok (.aload_n 0, 1) := by decide +kernel
theorem dX11_numberHere_76 : decode cX11_numberHere 76 = .ok (.dup, 1) := by decide +kernel
theorem dX11_numberHere_77 : decode cX11_numberHere 77 = .ok (.getfield 81, 3) := by decide +kernel
theorem dX11_numberHere_80 : decode cX11_numberHere 80 = .ok (.iconst 1, 1) := by decide +kernel
theorem dX11_numberHere_81 : decode cX11_numberHere 81 = .ok (.iadd, 1) := by decide +kernel
theorem dX11_numberHere_82 : decode cX11_numberHere 82 = .ok (.putfield 81, 3) := by decide +kernel
theorem dX11_numberHere_85 : decode cX11_numberHere 85 = .ok (.goto (-51), 3) := by decide +kernel
theorem dX11_numberHere_88 : decode cX11_numberHere 88 = .ok (.aload_n 0, 1) := by decide +kernel
theorem dX11_numberHere_89 : decode cX11_numberHere 89 = .ok (.iload 4, 2) := by decide +kernel
theorem dX11_numberHere_91 : decode cX11_numberHere 91 = .ok (.putfield 106, 3) := by decide +kernel
theorem dX11_numberHere_94 : decode cX11_numberHere 94 = .ok (.aload_n 0, 1) := by decide +kernel
theorem dX11_numberHere_95 : decode cX11_numberHere 95 = .ok (.getfield 81, 3) := by decide +kernel
theorem dX11_numberHere_98 : decode cX11_numberHere 98 = .ok (.iload_n 3, 1) := by decide +kernel
theorem dX11_numberHere_99 : decode cX11_numberHere 99 = .ok (.isub, 1) := by decide +kernel
theorem dX11_numberHere_100 : decode cX11_numberHere 100 = .ok (.iconst 5, 1) := by decide +kernel
theorem dX11_numberHere_101 : decode cX11_numberHere 101 = .ok (.if_icmp .gt 16, 3) := by decide +kernel
theorem dX11_numberHere_104 : decode cX11_numberHere 104 = .ok (.iload 4, 2) := by decide +kernel
theorem dX11_numberHere_106 : decode cX11_numberHere 106 = .ok (.i2l, 1) := by decide +kernel
theorem dX11_numberHere_107 : decode cX11_numberHere 107 = .ok (.iload_n 1, 1) := by decide +kernel
theorem dX11_numberHere_108 : decode cX11_numberHere 108 = .ok (.i2l, 1) := by decide +kernel
theorem dX11_numberHere_109 : decode cX11_numberHere 109 = .ok (.iload_n 2, 1) := by decide +kernel
theorem dX11_numberHere_110 : decode cX11_numberHere 110 = .ok (.i2l, 1) := by decide +kernel
theorem dX11_numberHere_111 : decode cX11_numberHere 111 = .ok (.invokestatic 109, 3) := by decide +kernel
theorem dX11_numberHere_114 : decode cX11_numberHere 114 = .ok (.ifCond .ne 12, 3) := by decide +kernel
theorem dX11_numberHere_117 : decode cX11_numberHere 117 = .ok (.aload_n 0, 1) := by decide +kernel
theorem dX11_numberHere_118 : decode cX11_numberHere 118 = .ok (.iconst 1, 1) := by decide +kernel
theorem dX11_numberHere_119 : decode cX11_numberHere 119 = .ok (.iload_n 3, 1) := by decide +kernel
theorem dX11_numberHere_120 : decode cX11_numberHere 120 = .ok (.invokevirtual 102, 3) := by decide +kernel
theorem dX11_numberHere_123 : decode cX11_numberHere 123 = .ok (.ifCond .eq 7, 3) := by decide +kernel
theorem dX11_numberHere_126 : decode cX11_numberHere 126 = .ok (.iconst 1, 1) := by decide +kernel
theorem dX11_numberHere_127 : decode cX11_numberHere 127 = .ok (.goto 4, 3) := by decide +kernel
theorem dX11_numberHere_130 : decode cX11_numberHere 130 = .ok (.iconst 0, 1) := by decide +kernel
theorem dX11_numberHere_131 : decode cX11_numberHere 131 = .ok (.ireturn, 1) := by decide +kernel
theorem dX11_wordHere_0 : decode cX11_wordHere 0 = .ok (.aload_n 0, 1) := by decide +kernel
theorem dX11_wordHere_1 : decode cX11_wordHere 1 = .ok (.ldc2_w 113, 3) := by decide +kernel
theorem dX11_wordHere_4 : decode cX11_wordHere 4 = .ok (.invokevirtual 92, 3) := by decide +kernel
theorem dX11_wordHere_7 : decode cX11_wordHere 7 = .ok (.ifCond .eq 5, 3) := by decide +kernel
theorem dX11_wordHere_10 : decode cX11_wordHere 10 = .ok (.iconst 0, 1) := by decide +kernel
theorem dX11_wordHere_11 : decode cX11_wordHere 11 = .ok (.ireturn, 1) := by decide +kernel
theorem dX11_wordHere_12 : decode cX11_wordHere 12 = .ok (.aload_n 0, 1) := by decide +kernel
theorem dX11_wordHere_13 : decode cX11_wordHere 13 = .ok (.ldc2_w 115, 3) := by decide +kernel
theorem dX11_wordHere_16 : decode cX11_wordHere 16 = .ok (.invokevirtual 92, 3) := by decide +kernel
theorem dX11_wordHere_19 : decode cX11_wordHere 19 = .ok (.ifCond .eq 5, 3) := by decide +kernel
theorem dX11_wordHere_22 : decode cX11_wordHere 22 = .ok (.iconst 1, 1) := by decide +kernel
theorem dX11_wordHere_23 : decode cX11_wordHere 23 = .ok (.ireturn, 1) := by decide +kernel
theorem dX11_wordHere_24 : decode cX11_wordHere 24 = .ok (.aload_n 0, 1) := by decide +kernel
theorem dX11_wordHere_25 : decode cX11_wordHere 25 = .ok (.ldc2_w 117, 3) := by decide +kernel
theorem dX11_wordHere_28 : decode cX11_wordHere 28 = .ok (.invokevirtual 92, 3) := by decide +kernel
theorem dX11_wordHere_31 : decode cX11_wordHere 31 = .ok (.ifCond .eq 5, 3) := by decide +kernel
theorem dX11_wordHere_34 : decode cX11_wordHere 34 = .ok (.iconst 2, 1) := by decide +kernel
theorem dX11_wordHere_35 : decode cX11_wordHere 35 = .ok (.ireturn, 1) := by decide +kernel
theorem dX11_wordHere_36 : decode cX11_wordHere 36 = .ok (.aload_n 0, 1) := by decide +kernel
theorem dX11_wordHere_37 : decode cX11_wordHere 37 = .ok (.ldc2_w 119, 3) := by decide +kernel
theorem dX11_wordHere_40 : decode cX11_wordHere 40 = .ok (.invokevirtual 92, 3) := by decide +kernel
theorem dX11_wordHere_43 : decode cX11_wordHere 43 = .ok (.ifCond .eq 5, 3) := by decide +kernel
theorem dX11_wordHere_46 : decode cX11_wordHere 46 = .ok (.iconst 3, 1) := by decide +kernel
theorem dX11_wordHere_47 : decode cX11_wordHere 47 = .ok (.ireturn, 1) := by decide +kernel
theorem dX11_wordHere_48 : decode cX11_wordHere 48 = .ok (.aload_n 0, 1) := by decide +kernel
theorem dX11_wordHere_49 : decode cX11_wordHere 49 = .ok (.ldc2_w 121, 3) := by decide +kernel
theorem dX11_wordHere_52 : decode cX11_wordHere 52 = .ok (.invokevirtual 92, 3) := by decide +kernel
theorem dX11_wordHere_55 : decode cX11_wordHere 55 = .ok (.ifCond .eq 5, 3) := by decide +kernel
theorem dX11_wordHere_58 : decode cX11_wordHere 58 = .ok (.iconst 4, 1) := by decide +kernel
theorem dX11_wordHere_59 : decode cX11_wordHere 59 = .ok (.ireturn, 1) := by decide +kernel
theorem dX11_wordHere_60 : decode cX11_wordHere 60 = .ok (.aload_n 0, 1) := by decide +kernel
theorem dX11_wordHere_61 : decode cX11_wordHere 61 = .ok (.ldc2_w 123, 3) := by decide +kernel
theorem dX11_wordHere_64 : decode cX11_wordHere 64 = .ok (.invokevirtual 92, 3) := by decide +kernel
theorem dX11_wordHere_67 : decode cX11_wordHere 67 = .ok (.ifCond .eq 5, 3) := by decide +kernel
theorem dX11_wordHere_70 : decode cX11_wordHere 70 = .ok (.iconst 5, 1) := by decide +kernel
theorem dX11_wordHere_71 : decode cX11_wordHere 71 = .ok (.ireturn, 1) := by decide +kernel
theorem dX11_wordHere_72 : decode cX11_wordHere 72 = .ok (.aload_n 0, 1) := by decide +kernel
theorem dX11_wordHere_73 : decode cX11_wordHere 73 = .ok (.ldc2_w 125, 3) := by decide +kernel
theorem dX11_wordHere_76 : decode cX11_wordHere 76 = .ok (.invokevirtual 92, 3) := by decide +kernel
theorem dX11_wordHere_79 : decode cX11_wordHere 79 = .ok (.ifCond .eq 6, 3) := by decide +kernel
theorem dX11_wordHere_82 : decode cX11_wordHere 82 = .ok (.bipush 6, 2) := by decide +kernel
theorem dX11_wordHere_84 : decode cX11_wordHere 84 = .ok (.ireturn, 1) := by decide +kernel
theorem dX11_wordHere_85 : decode cX11_wordHere 85 = .ok (.aload_n 0, 1) := by decide +kernel
theorem dX11_wordHere_86 : decode cX11_wordHere 86 = .ok (.ldc2_w 127, 3) := by decide +kernel
theorem dX11_wordHere_89 : decode cX11_wordHere 89 = .ok (.invokevirtual 92, 3) := by decide +kernel
theorem dX11_wordHere_92 : decode cX11_wordHere 92 = .ok (.ifCond .eq 8, 3) := by decide +kernel
theorem dX11_wordHere_95 : decode cX11_wordHere 95 = .ok (.bipush 7, 2) := by decide +kernel
theorem dX11_wordHere_97 : decode cX11_wordHere 97 = .ok (.goto 19, 3) := by decide +kernel
theorem dX11_wordHere_100 : decode cX11_wordHere 100 = .ok (.aload_n 0, 1) := by decide +kernel
theorem dX11_wordHere_101 : decode cX11_wordHere 101 = .ok (.ldc2_w 129, 3) := by decide +kernel
theorem dX11_wordHere_104 : decode cX11_wordHere 104 = .ok (.invokevirtual 92, 3) := by decide +kernel
theorem dX11_wordHere_107 : decode cX11_wordHere 107 = .ok (.ifCond .eq 8, 3) := by decide +kernel
theorem dX11_wordHere_110 : decode cX11_wordHere 110 = .ok (.bipush 8, 2) := by decide +kernel
theorem dX11_wordHere_112 : decode cX11_wordHere 112 = .ok (.goto 4, 3) := by decide +kernel
theorem dX11_wordHere_115 : decode cX11_wordHere 115 = .ok (.iconst (-1), 1) := by decide +kernel
theorem dX11_wordHere_116 : decode cX11_wordHere 116 = .ok (.ireturn, 1) := by decide +kernel
theorem dX11_puts_0 : decode cX11_puts 0 = .ok (.aload_n 0, 1) := by decide +kernel
theorem dX11_puts_1 : decode cX11_puts 1 = .ok (.getfield 13, 3) := by decide +kernel
theorem dX11_puts_4 : decode cX11_puts 4 = .ok (.sipush 400, 3) := by decide +kernel
theorem dX11_puts_7 : decode cX11_puts 7 = .ok (.aload_n 0, 1) := by decide +kernel
theorem dX11_puts_8 : decode cX11_puts 8 = .ok (.getfield 131, 3) := by decide +kernel
theorem dX11_puts_11 : decode cX11_puts 11 = .ok (.imul, 1) := by decide +kernel
theorem dX11_puts_12 : decode cX11_puts 12 = .ok (.aload_n 0, 1) := by decide +kernel
theorem dX11_puts_13 : decode cX11_puts 13 = .ok (.getfield 17, 3) := by decide +kernel
theorem dX11_puts_16 : decode cX11_puts 16 = .ok (.aload_n 0, 1) := by decide +kernel
theorem dX11_puts_17 : decode cX11_puts 17 = .ok (.getfield 131, 3) := by decide +kernel
theorem dX11_puts_20 : decode cX11_puts 20 = .ok (.iaload, 1) := by decide +kernel
theorem dX11_puts_21 : decode cX11_puts 21 = .ok (.iadd, 1) := by decide +kernel
theorem dX11_puts_22 : decode cX11_puts 22 = .ok (.iload_n 1, 1) := by decide +kernel
theorem dX11_puts_23 : decode cX11_puts 23 = .ok (.bipush 16, 2) := by decide +kernel
theorem dX11_puts_25 : decode cX11_puts 25 = .ok (.iload_n 2, 1) := by decide +kernel
theorem dX11_puts_26 : decode cX11_puts 26 = .ok (.imul, 1) := by decide +kernel
theorem dX11_puts_27 : decode cX11_puts 27 = .ok (.iadd, 1) := by decide +kernel
theorem dX11_puts_28 : decode cX11_puts 28 = .ok (.iastore, 1) := by decide +kernel
theorem dX11_puts_29 : decode cX11_puts 29 = .ok (.aload_n 0, 1) := by decide +kernel
theorem dX11_puts_30 : decode cX11_puts 30 = .ok (.getfield 17, 3) := by decide +kernel
theorem dX11_puts_33 : decode cX11_puts 33 = .ok (.aload_n 0, 1) := by decide +kernel
theorem dX11_puts_34 : decode cX11_puts 34 = .ok (.getfield 131, 3) := by decide +kernel
theorem dX11_puts_37 : decode cX11_puts 37 = .ok (.dup2, 1) := by decide +kernel
theorem dX11_puts_38 : decode cX11_puts 38 = .ok (.iaload, 1) := by decide +kernel
theorem dX11_puts_39 : decode cX11_puts 39 = .ok (.iconst 1, 1) := by decide +kernel
theorem dX11_puts_40 : decode cX11_puts 40 = .ok (.iadd, 1) := by decide +kernel
theorem dX11_puts_41 : decode cX11_puts 41 = .ok (.iastore, 1) := by decide +kernel
theorem dX11_puts_42 : decode cX11_puts 42 = .ok (.return_, 1) := by decide +kernel
theorem dX11_makes_0 : decode cX11_makes 0 = .ok (.aload_n 0, 1) := by decide +kernel
theorem dX11_makes_1 : decode cX11_makes 1 = .ok (.getfield 134, 3) := by decide +kernel
theorem dX11_makes_4 : decode cX11_makes 4 = .ok (.bipush 60, 2) := by decide +kernel
theorem dX11_makes_6 : decode cX11_makes 6 = .ok (.if_icmp .ne 10, 3) := by decide +kernel
theorem dX11_makes_9 : decode cX11_makes 9 = .ok (.aload_n 0, 1) := by decide +kernel
theorem dX11_makes_10 : decode cX11_makes 10 = .ok (.iconst 3, 1) := by decide +kernel
theorem dX11_makes_11 : decode cX11_makes 11 = .ok (.iload_n 1, 1) := by decide +kernel
theorem dX11_makes_12 : decode cX11_makes 12 = .ok (.invokevirtual 102, 3) := by decide +kernel
theorem dX11_makes_15 : decode cX11_makes 15 = .ok (.ireturn, 1) := by decide +kernel
theorem dX11_makes_16 : decode cX11_makes 16 = .ok (.aload_n 0, 1) := by decide +kernel
theorem dX11_makes_17 : decode cX11_makes 17 = .ok (.dup, 1) := by decide +kernel
theorem dX11_makes_18 : decode cX11_makes 18 = .ok (.getfield 134, 3) := by decide +kernel
theorem dX11_makes_21 : decode cX11_makes 21 = .ok (.iconst 1, 1) := by decide +kernel
theorem dX11_makes_22 : decode cX11_makes 22 = .ok (.iadd, 1) := by decide +kernel
theorem dX11_makes_23 : decode cX11_makes 23 = .ok (.putfield 134, 3) := by decide +kernel
theorem dX11_makes_26 : decode cX11_makes 26 = .ok (.iconst 1, 1) := by decide +kernel
theorem dX11_makes_27 : decode cX11_makes 27 = .ok (.ireturn, 1) := by decide +kernel
theorem dX11_opens_0 : decode cX11_opens 0 = .ok (.aload_n 0, 1) := by decide +kernel
theorem dX11_opens_1 : decode cX11_opens 1 = .ok (.getfield 137, 3) := by decide +kernel
theorem dX11_opens_4 : decode cX11_opens 4 = .ok (.bipush 10, 2) := by decide +kernel
theorem dX11_opens_6 : decode cX11_opens 6 = .ok (.if_icmp .ne 13, 3) := by decide +kernel
theorem dX11_opens_9 : decode cX11_opens 9 = .ok (.aload_n 0, 1) := by decide +kernel
theorem dX11_opens_10 : decode cX11_opens 10 = .ok (.iconst 2, 1) := by decide +kernel
theorem dX11_opens_11 : decode cX11_opens 11 = .ok (.aload_n 0, 1) := by decide +kernel
theorem dX11_opens_12 : decode cX11_opens 12 = .ok (.getfield 81, 3) := by decide +kernel
theorem dX11_opens_15 : decode cX11_opens 15 = .ok (.invokevirtual 102, 3) := by decide +kernel
theorem dX11_opens_18 : decode cX11_opens 18 = .ok (.ireturn, 1) := by decide +kernel
theorem dX11_opens_19 : decode cX11_opens 19 = .ok (.aload_n 0, 1) := by decide +kernel
theorem dX11_opens_20 : decode cX11_opens 20 = .ok (.dup, 1) := by decide +kernel
theorem dX11_opens_21 : decode cX11_opens 21 = .ok (.getfield 137, 3) := by decide +kernel
theorem dX11_opens_24 : decode cX11_opens 24 = .ok (.iconst 1, 1) := by decide +kernel
theorem dX11_opens_25 : decode cX11_opens 25 = .ok (.iadd, 1) := by decide +kernel
theorem dX11_opens_26 : decode cX11_opens 26 = .ok (.putfield 137, 3) := by decide +kernel
theorem dX11_opens_29 : decode cX11_opens 29 = .ok (.aload_n 0, 1) := by decide +kernel
theorem dX11_opens_30 : decode cX11_opens 30 = .ok (.getfield 35, 3) := by decide +kernel
theorem dX11_opens_33 : decode cX11_opens 33 = .ok (.aload_n 0, 1) := by decide +kernel
theorem dX11_opens_34 : decode cX11_opens 34 = .ok (.getfield 140, 3) := by decide +kernel
theorem dX11_opens_37 : decode cX11_opens 37 = .ok (.iload_n 1, 1) := by decide +kernel
theorem dX11_opens_38 : decode cX11_opens 38 = .ok (.iastore, 1) := by decide +kernel
theorem dX11_opens_39 : decode cX11_opens 39 = .ok (.aload_n 0, 1) := by decide +kernel
theorem dX11_opens_40 : decode cX11_opens 40 = .ok (.dup, 1) := by decide +kernel
theorem dX11_opens_41 : decode cX11_opens 41 = .ok (.getfield 140, 3) := by decide +kernel
theorem dX11_opens_44 : decode cX11_opens 44 = .ok (.iconst 1, 1) := by decide +kernel
theorem dX11_opens_45 : decode cX11_opens 45 = .ok (.iadd, 1) := by decide +kernel
theorem dX11_opens_46 : decode cX11_opens 46 = .ok (.putfield 140, 3) := by decide +kernel
theorem dX11_opens_49 : decode cX11_opens 49 = .ok (.iconst 1, 1) := by decide +kernel
theorem dX11_opens_50 : decode cX11_opens 50 = .ok (.ireturn, 1) := by decide +kernel
theorem dX11_strength_0 : decode cX11_strength 0 = .ok (.iload_n 0, 1) := by decide +kernel
theorem dX11_strength_1 : decode cX11_strength 1 = .ok (.bipush 13, 2) := by decide +kernel
theorem dX11_strength_3 : decode cX11_strength 3 = .ok (.if_icmp .ne 7, 3) := by decide +kernel
theorem dX11_strength_6 : decode cX11_strength 6 = .ok (.iconst 1, 1) := by decide +kernel
theorem dX11_strength_7 : decode cX11_strength 7 = .ok (.goto 24, 3) := by decide +kernel
theorem dX11_strength_10 : decode cX11_strength 10 = .ok (.iload_n 0, 1) := by decide +kernel
theorem dX11_strength_11 : decode cX11_strength 11 = .ok (.bipush 12, 2) := by decide +kernel
theorem dX11_strength_13 : decode cX11_strength 13 = .ok (.if_icmp .ne 7, 3) := by decide +kernel
theorem dX11_strength_16 : decode cX11_strength 16 = .ok (.iconst 2, 1) := by decide +kernel
theorem dX11_strength_17 : decode cX11_strength 17 = .ok (.goto 14, 3) := by decide +kernel
theorem dX11_strength_20 : decode cX11_strength 20 = .ok (.iload_n 0, 1) := by decide +kernel
theorem dX11_strength_21 : decode cX11_strength 21 = .ok (.bipush 11, 2) := by decide +kernel
theorem dX11_strength_23 : decode cX11_strength 23 = .ok (.if_icmp .ne 7, 3) := by decide +kernel
theorem dX11_strength_26 : decode cX11_strength 26 = .ok (.iconst 3, 1) := by decide +kernel
theorem dX11_strength_27 : decode cX11_strength 27 = .ok (.goto 4, 3) := by decide +kernel
theorem dX11_strength_30 : decode cX11_strength 30 = .ok (.iconst 0, 1) := by decide +kernel
theorem dX11_strength_31 : decode cX11_strength 31 = .ok (.ireturn, 1) := by decide +kernel
theorem dX11_settles_0 : decode cX11_settles 0 = .ok (.aload_n 0, 1) := by decide +kernel
theorem dX11_settles_1 : decode cX11_settles 1 = .ok (.getfield 140, 3) := by decide +kernel
theorem dX11_settles_4 : decode cX11_settles 4 = .ok (.ifCond .le 72, 3) := by decide +kernel
theorem dX11_settles_7 : decode cX11_settles 7 = .ok (.aload_n 0, 1) := by decide +kernel
theorem dX11_settles_8 : decode cX11_settles 8 = .ok (.getfield 35, 3) := by decide +kernel
theorem dX11_settles_11 : decode cX11_settles 11 = .ok (.aload_n 0, 1) := by decide +kernel
theorem dX11_settles_12 : decode cX11_settles 12 = .ok (.getfield 140, 3) := by decide +kernel
theorem dX11_settles_15 : decode cX11_settles 15 = .ok (.iconst 1, 1) := by decide +kernel
theorem dX11_settles_16 : decode cX11_settles 16 = .ok (.isub, 1) := by decide +kernel
theorem dX11_settles_17 : decode cX11_settles 17 = .ok (.iaload, 1) := by decide +kernel
theorem dX11_settles_18 : decode cX11_settles 18 = .ok (.invokestatic 143, 3) := by decide +kernel
theorem dX11_settles_21 : decode cX11_settles 21 = .ok (.iload_n 1, 1) := by decide +kernel
theorem dX11_settles_22 : decode cX11_settles 22 = .ok (.if_icmp .lt 54, 3) := by decide +kernel
theorem dX11_settles_25 : decode cX11_settles 25 = .ok (.aload_n 0, 1) := by decide +kernel
theorem dX11_settles_26 : decode cX11_settles 26 = .ok (.dup, 1) := by decide +kernel
theorem dX11_settles_27 : decode cX11_settles 27 = .ok (.getfield 140, 3) := by decide +kernel
theorem dX11_settles_30 : decode cX11_settles 30 = .ok (.iconst 1, 1) := by decide +kernel
theorem dX11_settles_31 : decode cX11_settles 31 = .ok (.isub, 1) := by decide +kernel
theorem dX11_settles_32 : decode cX11_settles 32 = .ok (.putfield 140, 3) := by decide +kernel
theorem dX11_settles_35 : decode cX11_settles 35 = .ok (.aload_n 0, 1) := by decide +kernel
theorem dX11_settles_36 : decode cX11_settles 36 = .ok (.aload_n 0, 1) := by decide +kernel
theorem dX11_settles_37 : decode cX11_settles 37 = .ok (.getfield 35, 3) := by decide +kernel
theorem dX11_settles_40 : decode cX11_settles 40 = .ok (.aload_n 0, 1) := by decide +kernel
theorem dX11_settles_41 : decode cX11_settles 41 = .ok (.getfield 140, 3) := by decide +kernel
theorem dX11_settles_44 : decode cX11_settles 44 = .ok (.iaload, 1) := by decide +kernel
theorem dX11_settles_45 : decode cX11_settles 45 = .ok (.iconst 0, 1) := by decide +kernel
theorem dX11_settles_46 : decode cX11_settles 46 = .ok (.invokevirtual 147, 3) := by decide +kernel
theorem dX11_settles_49 : decode cX11_settles 49 = .ok (.aload_n 0, 1) := by decide +kernel
theorem dX11_settles_50 : decode cX11_settles 50 = .ok (.getfield 35, 3) := by decide +kernel
theorem dX11_settles_53 : decode cX11_settles 53 = .ok (.aload_n 0, 1) := by decide +kernel
theorem dX11_settles_54 : decode cX11_settles 54 = .ok (.getfield 140, 3) := by decide +kernel
theorem dX11_settles_57 : decode cX11_settles 57 = .ok (.iaload, 1) := by decide +kernel
theorem dX11_settles_58 : decode cX11_settles 58 = .ok (.bipush 11, 2) := by decide +kernel
theorem dX11_settles_60 : decode cX11_settles 60 = .ok (.if_icmp .ne (-60), 3) := by decide +kernel
theorem dX11_settles_63 : decode cX11_settles 63 = .ok (.aload_n 0, 1) := by decide +kernel
theorem dX11_settles_64 : decode cX11_settles 64 = .ok (.dup, 1) := by decide +kernel
theorem dX11_settles_65 : decode cX11_settles 65 = .ok (.getfield 137, 3) := by decide +kernel
theorem dX11_settles_68 : decode cX11_settles 68 = .ok (.iconst 1, 1) := by decide +kernel
theorem dX11_settles_69 : decode cX11_settles 69 = .ok (.isub, 1) := by decide +kernel
theorem dX11_settles_70 : decode cX11_settles 70 = .ok (.putfield 137, 3) := by decide +kernel
theorem dX11_settles_73 : decode cX11_settles 73 = .ok (.goto (-73), 3) := by decide +kernel
theorem dX11_settles_76 : decode cX11_settles 76 = .ok (.return_, 1) := by decide +kernel
theorem dX11_value_0 : decode cX11_value 0 = .ok (.aload_n 0, 1) := by decide +kernel
theorem dX11_value_1 : decode cX11_value 1 = .ok (.invokevirtual 84, 3) := by decide +kernel
theorem dX11_value_4 : decode cX11_value 4 = .ok (.pop, 1) := by decide +kernel
theorem dX11_value_5 : decode cX11_value 5 = .ok (.aload_n 0, 1) := by decide +kernel
theorem dX11_value_6 : decode cX11_value 6 = .ok (.getfield 81, 3) := by decide +kernel
theorem dX11_value_9 : decode cX11_value 9 = .ok (.istore_n 1, 1) := by decide +kernel
theorem dX11_value_10 : decode cX11_value 10 = .ok (.aload_n 0, 1) := by decide +kernel
theorem dX11_value_11 : decode cX11_value 11 = .ok (.aload_n 0, 1) := by decide +kernel
theorem dX11_value_12 : decode cX11_value 12 = .ok (.getfield 81, 3) := by decide +kernel
theorem dX11_value_15 : decode cX11_value 15 = .ok (.invokevirtual 99, 3) := by decide +kernel
theorem dX11_value_18 : decode cX11_value 18 = .ok (.ifCond .eq 34, 3) := by decide +kernel
theorem dX11_value_21 : decode cX11_value 21 = .ok (.aload_n 0, 1) := by decide +kernel
theorem dX11_value_22 : decode cX11_value 22 = .ok (.iconst 0, 1) := by decide +kernel
theorem dX11_value_23 : decode cX11_value 23 = .ok (.ldc 151, 2) := by decide +kernel
theorem dX11_value_25 : decode cX11_value 25 = .ok (.invokevirtual 152, 3) := by decide +kernel
theorem dX11_value_28 : decode cX11_value 28 = .ok (.ifCond .eq 11, 3) := by decide +kernel
theorem dX11_value_31 : decode cX11_value 31 = .ok (.aload_n 0, 1) := by decide +kernel
theorem dX11_value_32 : decode cX11_value 32 = .ok (.iload_n 1, 1) := by decide +kernel
theorem dX11_value_33 : decode cX11_value 33 = .ok (.invokevirtual 155, 3) := by decide +kernel
theorem dX11_value_36 : decode cX11_value 36 = .ok (.ifCond .ne 5, 3) := by decide +kernel
theorem dX11_value_39 : decode cX11_value 39 = .ok (.iconst 0, 1) := by decide +kernel
theorem dX11_value_40 : decode cX11_value 40 = .ok (.ireturn, 1) := by decide +kernel
theorem dX11_value_41 : decode cX11_value 41 = .ok (.aload_n 0, 1) := by decide +kernel
theorem dX11_value_42 : decode cX11_value 42 = .ok (.iconst 0, 1) := by decide +kernel
theorem dX11_value_43 : decode cX11_value 43 = .ok (.aload_n 0, 1) := by decide +kernel
theorem dX11_value_44 : decode cX11_value 44 = .ok (.getfield 106, 3) := by decide +kernel
theorem dX11_value_47 : decode cX11_value 47 = .ok (.invokevirtual 147, 3) := by decide +kernel
theorem dX11_value_50 : decode cX11_value 50 = .ok (.iconst 1, 1) := by decide +kernel
theorem dX11_value_51 : decode cX11_value 51 = .ok (.ireturn, 1) := by decide +kernel
theorem dX11_value_52 : decode cX11_value 52 = .ok (.aload_n 0, 1) := by decide +kernel
theorem dX11_value_53 : decode cX11_value 53 = .ok (.invokevirtual 158, 3) := by decide +kernel
theorem dX11_value_56 : decode cX11_value 56 = .ok (.istore_n 2, 1) := by decide +kernel
theorem dX11_value_57 : decode cX11_value 57 = .ok (.iload_n 2, 1) := by decide +kernel
theorem dX11_value_58 : decode cX11_value 58 = .ok (.ifCond .ge 10, 3) := by decide +kernel
theorem dX11_value_61 : decode cX11_value 61 = .ok (.aload_n 0, 1) := by decide +kernel
theorem dX11_value_62 : decode cX11_value 62 = .ok (.iconst 0, 1) := by decide +kernel
theorem dX11_value_63 : decode cX11_value 63 = .ok (.iload_n 1, 1) := by decide +kernel
theorem dX11_value_64 : decode cX11_value 64 = .ok (.invokevirtual 102, 3) := by decide +kernel
theorem dX11_value_67 : decode cX11_value 67 = .ok (.ireturn, 1) := by decide +kernel
theorem dX11_value_68 : decode cX11_value 68 = .ok (.aload_n 0, 1) := by decide +kernel
theorem dX11_value_69 : decode cX11_value 69 = .ok (.iload_n 1, 1) := by decide +kernel
theorem dX11_value_70 : decode cX11_value 70 = .ok (.invokevirtual 155, 3) := by decide +kernel
theorem dX11_value_73 : decode cX11_value 73 = .ok (.ifCond .ne 5, 3) := by decide +kernel
theorem dX11_value_76 : decode cX11_value 76 = .ok (.iconst 0, 1) := by decide +kernel
theorem dX11_value_77 : decode cX11_value 77 = .ok (.ireturn, 1) := by decide +kernel
theorem dX11_value_78 : decode cX11_value 78 = .ok (.aload_n 0, 1) := by decide +kernel
theorem dX11_value_79 : decode cX11_value 79 = .ok (.invokevirtual 96, 3) := by decide +kernel
theorem dX11_value_82 : decode cX11_value 82 = .ok (.aload_n 0, 1) := by decide +kernel
theorem dX11_value_83 : decode cX11_value 83 = .ok (.iconst 1, 1) := by decide +kernel
theorem dX11_value_84 : decode cX11_value 84 = .ok (.iload_n 2, 1) := by decide +kernel
theorem dX11_value_85 : decode cX11_value 85 = .ok (.invokevirtual 147, 3) := by decide +kernel
theorem dX11_value_88 : decode cX11_value 88 = .ok (.iconst 1, 1) := by decide +kernel
theorem dX11_value_89 : decode cX11_value 89 = .ok (.ireturn, 1) := by decide +kernel
theorem dX11_term_0 : decode cX11_term 0 = .ok (.aload_n 0, 1) := by decide +kernel
theorem dX11_term_1 : decode cX11_term 1 = .ok (.invokevirtual 161, 3) := by decide +kernel
theorem dX11_term_4 : decode cX11_term 4 = .ok (.ifCond .ne 5, 3) := by decide +kernel
theorem dX11_term_7 : decode cX11_term 7 = .ok (.iconst 0, 1) := by decide +kernel
theorem dX11_term_8 : decode cX11_term 8 = .ok (.ireturn, 1) := by decide +kernel
theorem dX11_term_9 : decode cX11_term 9 = .ok (.aload_n 0, 1) := by decide +kernel
theorem dX11_term_10 : decode cX11_term 10 = .ok (.invokevirtual 84, 3) := by decide +kernel
theorem dX11_term_13 : decode cX11_term 13 = .ok (.bipush 42, 2) := by decide +kernel
theorem dX11_term_15 : decode cX11_term 15 = .ok (.if_icmp .eq 12, 3) := by decide +kernel
theorem dX11_term_18 : decode cX11_term 18 = .ok (.aload_n 0, 1) := by decide +kernel
theorem dX11_term_19 : decode cX11_term 19 = .ok (.invokevirtual 84, 3) := by decide +kernel
theorem dX11_term_22 : decode cX11_term 22 = .ok (.bipush 47, 2) := by decide +kernel
theorem dX11_term_24 : decode cX11_term 24 = .ok (.if_icmp .ne 51, 3) := by decide +kernel
theorem dX11_term_27 : decode cX11_term 27 = .ok (.aload_n 0, 1) := by decide +kernel
theorem dX11_term_28 : decode cX11_term 28 = .ok (.getfield 7, 3) := by decide +kernel
theorem dX11_term_31 : decode cX11_term 31 = .ok (.aload_n 0, 1) := by decide +kernel
theorem dX11_term_32 : decode cX11_term 32 = .ok (.getfield 81, 3) := by decide +kernel
theorem dX11_term_35 : decode cX11_term 35 = .ok (.baload, 1) := by decide +kernel
theorem dX11_term_36 : decode cX11_term 36 = .ok (.bipush 42, 2) := by decide +kernel
theorem dX11_term_38 : decode cX11_term 38 = .ok (.if_icmp .ne 7, 3) := by decide +kernel
theorem dX11_term_41 : decode cX11_term 41 = .ok (.iconst 4, 1) := by decide +kernel
theorem dX11_term_42 : decode cX11_term 42 = .ok (.goto 4, 3) := by decide +kernel
theorem dX11_term_45 : decode cX11_term 45 = .ok (.iconst 5, 1) := by decide +kernel
theorem dX11_term_46 : decode cX11_term 46 = .ok (.istore_n 1, 1) := by decide +kernel
theorem dX11_term_47 : decode cX11_term 47 = .ok (.aload_n 0, 1) := by decide +kernel
theorem dX11_term_48 : decode cX11_term 48 = .ok (.dup, 1) := by decide +kernel
theorem dX11_term_49 : decode cX11_term 49 = .ok (.getfield 81, 3) := by decide +kernel
theorem dX11_term_52 : decode cX11_term 52 = .ok (.iconst 1, 1) := by decide +kernel
theorem dX11_term_53 : decode cX11_term 53 = .ok (.iadd, 1) := by decide +kernel
theorem dX11_term_54 : decode cX11_term 54 = .ok (.putfield 81, 3) := by decide +kernel
theorem dX11_term_57 : decode cX11_term 57 = .ok (.aload_n 0, 1) := by decide +kernel
theorem dX11_term_58 : decode cX11_term 58 = .ok (.invokevirtual 161, 3) := by decide +kernel
theorem dX11_term_61 : decode cX11_term 61 = .ok (.ifCond .ne 5, 3) := by decide +kernel
theorem dX11_term_64 : decode cX11_term 64 = .ok (.iconst 0, 1) := by decide +kernel
theorem dX11_term_65 : decode cX11_term 65 = .ok (.ireturn, 1) := by decide +kernel
theorem dX11_term_66 : decode cX11_term 66 = .ok (.aload_n 0, 1) := by decide +kernel
theorem dX11_term_67 : decode cX11_term 67 = .ok (.iload_n 1, 1) := by decide +kernel
theorem dX11_term_68 : decode cX11_term 68 = .ok (.iconst 0, 1) := by decide +kernel
theorem dX11_term_69 : decode cX11_term 69 = .ok (.invokevirtual 147, 3) := by decide +kernel
theorem dX11_term_72 : decode cX11_term 72 = .ok (.goto (-63), 3) := by decide +kernel
theorem dX11_term_75 : decode cX11_term 75 = .ok (.iconst 1, 1) := by decide +kernel
theorem dX11_term_76 : decode cX11_term 76 = .ok (.ireturn, 1) := by decide +kernel
theorem dX11_sum_0 : decode cX11_sum 0 = .ok (.aload_n 0, 1) := by decide +kernel
theorem dX11_sum_1 : decode cX11_sum 1 = .ok (.invokevirtual 165, 3) := by decide +kernel
theorem dX11_sum_4 : decode cX11_sum 4 = .ok (.ifCond .ne 5, 3) := by decide +kernel
theorem dX11_sum_7 : decode cX11_sum 7 = .ok (.iconst 0, 1) := by decide +kernel
theorem dX11_sum_8 : decode cX11_sum 8 = .ok (.ireturn, 1) := by decide +kernel
theorem dX11_sum_9 : decode cX11_sum 9 = .ok (.aload_n 0, 1) := by decide +kernel
theorem dX11_sum_10 : decode cX11_sum 10 = .ok (.invokevirtual 84, 3) := by decide +kernel
theorem dX11_sum_13 : decode cX11_sum 13 = .ok (.bipush 43, 2) := by decide +kernel
theorem dX11_sum_15 : decode cX11_sum 15 = .ok (.if_icmp .eq 12, 3) := by decide +kernel
theorem dX11_sum_18 : decode cX11_sum 18 = .ok (.aload_n 0, 1) := by decide +kernel
theorem dX11_sum_19 : decode cX11_sum 19 = .ok (.invokevirtual 84, 3) := by decide +kernel
theorem dX11_sum_22 : decode cX11_sum 22 = .ok (.bipush 45, 2) := by decide +kernel
theorem dX11_sum_24 : decode cX11_sum 24 = .ok (.if_icmp .ne 51, 3) := by decide +kernel
theorem dX11_sum_27 : decode cX11_sum 27 = .ok (.aload_n 0, 1) := by decide +kernel
theorem dX11_sum_28 : decode cX11_sum 28 = .ok (.getfield 7, 3) := by decide +kernel
theorem dX11_sum_31 : decode cX11_sum 31 = .ok (.aload_n 0, 1) := by decide +kernel
theorem dX11_sum_32 : decode cX11_sum 32 = .ok (.getfield 81, 3) := by decide +kernel
theorem dX11_sum_35 : decode cX11_sum 35 = .ok (.baload, 1) := by decide +kernel
theorem dX11_sum_36 : decode cX11_sum 36 = .ok (.bipush 43, 2) := by decide +kernel
theorem dX11_sum_38 : decode cX11_sum 38 = .ok (.if_icmp .ne 7, 3) := by decide +kernel
theorem dX11_sum_41 : decode cX11_sum 41 = .ok (.iconst 2, 1) := by decide +kernel
theorem dX11_sum_42 : decode cX11_sum 42 = .ok (.goto 4, 3) := by decide +kernel
theorem dX11_sum_45 : decode cX11_sum 45 = .ok (.iconst 3, 1) := by decide +kernel
theorem dX11_sum_46 : decode cX11_sum 46 = .ok (.istore_n 1, 1) := by decide +kernel
theorem dX11_sum_47 : decode cX11_sum 47 = .ok (.aload_n 0, 1) := by decide +kernel
theorem dX11_sum_48 : decode cX11_sum 48 = .ok (.dup, 1) := by decide +kernel
theorem dX11_sum_49 : decode cX11_sum 49 = .ok (.getfield 81, 3) := by decide +kernel
theorem dX11_sum_52 : decode cX11_sum 52 = .ok (.iconst 1, 1) := by decide +kernel
theorem dX11_sum_53 : decode cX11_sum 53 = .ok (.iadd, 1) := by decide +kernel
theorem dX11_sum_54 : decode cX11_sum 54 = .ok (.putfield 81, 3) := by decide +kernel
theorem dX11_sum_57 : decode cX11_sum 57 = .ok (.aload_n 0, 1) := by decide +kernel
theorem dX11_sum_58 : decode cX11_sum 58 = .ok (.invokevirtual 165, 3) := by decide +kernel
theorem dX11_sum_61 : decode cX11_sum 61 = .ok (.ifCond .ne 5, 3) := by decide +kernel
theorem dX11_sum_64 : decode cX11_sum 64 = .ok (.iconst 0, 1) := by decide +kernel
theorem dX11_sum_65 : decode cX11_sum 65 = .ok (.ireturn, 1) := by decide +kernel
theorem dX11_sum_66 : decode cX11_sum 66 = .ok (.aload_n 0, 1) := by decide +kernel
theorem dX11_sum_67 : decode cX11_sum 67 = .ok (.iload_n 1, 1) := by decide +kernel
theorem dX11_sum_68 : decode cX11_sum 68 = .ok (.iconst 0, 1) := by decide +kernel
theorem dX11_sum_69 : decode cX11_sum 69 = .ok (.invokevirtual 147, 3) := by decide +kernel
theorem dX11_sum_72 : decode cX11_sum 72 = .ok (.goto (-63), 3) := by decide +kernel
theorem dX11_sum_75 : decode cX11_sum 75 = .ok (.iconst 1, 1) := by decide +kernel
theorem dX11_sum_76 : decode cX11_sum 76 = .ok (.ireturn, 1) := by decide +kernel
theorem dX11_compare_0 : decode cX11_compare 0 = .ok (.aload_n 0, 1) := by decide +kernel
theorem dX11_compare_1 : decode cX11_compare 1 = .ok (.invokevirtual 168, 3) := by decide +kernel
theorem dX11_compare_4 : decode cX11_compare 4 = .ok (.ifCond .ne 5, 3) := by decide +kernel
theorem dX11_compare_7 : decode cX11_compare 7 = .ok (.iconst 0, 1) := by decide +kernel
theorem dX11_compare_8 : decode cX11_compare 8 = .ok (.ireturn, 1) := by decide +kernel
theorem dX11_compare_9 : decode cX11_compare 9 = .ok (.aload_n 0, 1) := by decide +kernel
theorem dX11_compare_10 : decode cX11_compare 10 = .ok (.invokevirtual 84, 3) := by decide +kernel
theorem dX11_compare_13 : decode cX11_compare 13 = .ok (.istore_n 1, 1) := by decide +kernel
theorem dX11_compare_14 : decode cX11_compare 14 = .ok (.aload_n 0, 1) := by decide +kernel
theorem dX11_compare_15 : decode cX11_compare 15 = .ok (.getfield 81, 3) := by decide +kernel
theorem dX11_compare_18 : decode cX11_compare 18 = .ok (.istore_n 2, 1) := by decide +kernel
theorem dX11_compare_19 : decode cX11_compare 19 = .ok (.iload_n 1, 1) := by decide +kernel
theorem dX11_compare_20 : decode cX11_compare 20 = .ok (.bipush 60, 2) := by decide +kernel
theorem dX11_compare_22 : decode cX11_compare 22 = .ok (.if_icmp .eq 22, 3) := by decide +kernel
theorem dX11_compare_25 : decode cX11_compare 25 = .ok (.iload_n 1, 1) := by decide +kernel
theorem dX11_compare_26 : decode cX11_compare 26 = .ok (.bipush 61, 2) := by decide +kernel
theorem dX11_compare_28 : decode cX11_compare 28 = .ok (.if_icmp .eq 16, 3) := by decide +kernel
theorem dX11_compare_31 : decode cX11_compare 31 = .ok (.iload_n 1, 1) := by decide +kernel
theorem dX11_compare_32 : decode cX11_compare 32 = .ok (.bipush 62, 2) := by decide +kernel
theorem dX11_compare_34 : decode cX11_compare 34 = .ok (.if_icmp .eq 10, 3) := by decide +kernel
theorem dX11_compare_37 : decode cX11_compare 37 = .ok (.aload_n 0, 1) := by decide +kernel
theorem dX11_compare_38 : decode cX11_compare 38 = .ok (.iconst 0, 1) := by decide +kernel
theorem dX11_compare_39 : decode cX11_compare 39 = .ok (.iload_n 2, 1) := by decide +kernel
theorem dX11_compare_40 : decode cX11_compare 40 = .ok (.invokevirtual 102, 3) := by decide +kernel
theorem dX11_compare_43 : decode cX11_compare 43 = .ok (.ireturn, 1) := by decide +kernel
theorem dX11_compare_44 : decode cX11_compare 44 = .ok (.aload_n 0, 1) := by decide +kernel
theorem dX11_compare_45 : decode cX11_compare 45 = .ok (.dup, 1) := by decide +kernel
theorem dX11_compare_46 : decode cX11_compare 46 = .ok (.getfield 81, 3) := by decide +kernel
theorem dX11_compare_49 : decode cX11_compare 49 = .ok (.iconst 1, 1) := by decide +kernel
theorem dX11_compare_50 : decode cX11_compare 50 = .ok (.iadd, 1) := by decide +kernel
theorem dX11_compare_51 : decode cX11_compare 51 = .ok (.putfield 81, 3) := by decide +kernel
theorem dX11_compare_54 : decode cX11_compare 54 = .ok (.iload_n 1, 1) := by decide +kernel
theorem dX11_compare_55 : decode cX11_compare 55 = .ok (.bipush 61, 2) := by decide +kernel
theorem dX11_compare_57 : decode cX11_compare 57 = .ok (.if_icmp .eq 32, 3) := by decide +kernel
theorem dX11_compare_60 : decode cX11_compare 60 = .ok (.aload_n 0, 1) := by decide +kernel
theorem dX11_compare_61 : decode cX11_compare 61 = .ok (.getfield 81, 3) := by decide +kernel
theorem dX11_compare_64 : decode cX11_compare 64 = .ok (.aload_n 0, 1) := by decide +kernel
theorem dX11_compare_65 : decode cX11_compare 65 = .ok (.getfield 70, 3) := by decide +kernel
theorem dX11_compare_68 : decode cX11_compare 68 = .ok (.if_icmp .ge 21, 3) := by decide +kernel
theorem dX11_compare_71 : decode cX11_compare 71 = .ok (.aload_n 0, 1) := by decide +kernel
theorem dX11_compare_72 : decode cX11_compare 72 = .ok (.getfield 7, 3) := by decide +kernel
theorem dX11_compare_75 : decode cX11_compare 75 = .ok (.aload_n 0, 1) := by decide +kernel
theorem dX11_compare_76 : decode cX11_compare 76 = .ok (.getfield 81, 3) := by decide +kernel
theorem dX11_compare_79 : decode cX11_compare 79 = .ok (.baload, 1) := by decide +kernel
theorem dX11_compare_80 : decode cX11_compare 80 = .ok (.bipush 61, 2) := by decide +kernel
theorem dX11_compare_82 : decode cX11_compare 82 = .ok (.if_icmp .ne 7, 3) := by decide +kernel
theorem dX11_compare_85 : decode cX11_compare 85 = .ok (.iconst 1, 1) := by decide +kernel
theorem dX11_compare_86 : decode cX11_compare 86 = .ok (.goto 4, 3) := by decide +kernel
theorem dX11_compare_89 : decode cX11_compare 89 = .ok (.iconst 0, 1) := by decide +kernel
theorem dX11_compare_90 : decode cX11_compare 90 = .ok (.istore_n 3, 1) := by decide +kernel
theorem dX11_compare_91 : decode cX11_compare 91 = .ok (.iload_n 3, 1) := by decide +kernel
theorem dX11_compare_92 : decode cX11_compare 92 = .ok (.ifCond .eq 13, 3) := by decide +kernel
theorem dX11_compare_95 : decode cX11_compare 95 = .ok (.aload_n 0, 1) := by decide +kernel
theorem dX11_compare_96 : decode cX11_compare 96 = .ok (.dup, 1) := by decide +kernel
theorem dX11_compare_97 : decode cX11_compare 97 = .ok (.getfield 81, 3) := by decide +kernel
theorem dX11_compare_100 : decode cX11_compare 100 = .ok (.iconst 1, 1) := by decide +kernel
theorem dX11_compare_101 : decode cX11_compare 101 = .ok (.iadd, 1) := by decide +kernel
theorem dX11_compare_102 : decode cX11_compare 102 = .ok (.putfield 81, 3) := by decide +kernel
theorem dX11_compare_105 : decode cX11_compare 105 = .ok (.aload_n 0, 1) := by decide +kernel
theorem dX11_compare_106 : decode cX11_compare 106 = .ok (.iload_n 2, 1) := by decide +kernel
theorem dX11_compare_107 : decode cX11_compare 107 = .ok (.invokevirtual 155, 3) := by decide +kernel
theorem dX11_compare_110 : decode cX11_compare 110 = .ok (.ifCond .ne 5, 3) := by decide +kernel
theorem dX11_compare_113 : decode cX11_compare 113 = .ok (.iconst 0, 1) := by decide +kernel
theorem dX11_compare_114 : decode cX11_compare 114 = .ok (.ireturn, 1) := by decide +kernel
theorem dX11_compare_115 : decode cX11_compare 115 = .ok (.iload_n 1, 1) := by decide +kernel
theorem dX11_compare_116 : decode cX11_compare 116 = .ok (.bipush 60, 2) := by decide +kernel
theorem dX11_compare_118 : decode cX11_compare 118 = .ok (.if_icmp .ne 15, 3) := by decide +kernel
theorem dX11_compare_121 : decode cX11_compare 121 = .ok (.iload_n 3, 1) := by decide +kernel
theorem dX11_compare_122 : decode cX11_compare 122 = .ok (.ifCond .eq 7, 3) := by decide +kernel
theorem dX11_compare_125 : decode cX11_compare 125 = .ok (.iconst 1, 1) := by decide +kernel
theorem dX11_compare_126 : decode cX11_compare 126 = .ok (.goto 26, 3) := by decide +kernel
theorem dX11_compare_129 : decode cX11_compare 129 = .ok (.iconst 0, 1) := by decide +kernel
theorem dX11_compare_130 : decode cX11_compare 130 = .ok (.goto 22, 3) := by decide +kernel
theorem dX11_compare_133 : decode cX11_compare 133 = .ok (.iload_n 1, 1) := by decide +kernel
theorem dX11_compare_134 : decode cX11_compare 134 = .ok (.bipush 61, 2) := by decide +kernel
theorem dX11_compare_136 : decode cX11_compare 136 = .ok (.if_icmp .ne 7, 3) := by decide +kernel
theorem dX11_compare_139 : decode cX11_compare 139 = .ok (.iconst 2, 1) := by decide +kernel
theorem dX11_compare_140 : decode cX11_compare 140 = .ok (.goto 12, 3) := by decide +kernel
theorem dX11_compare_143 : decode cX11_compare 143 = .ok (.iload_n 3, 1) := by decide +kernel
theorem dX11_compare_144 : decode cX11_compare 144 = .ok (.ifCond .eq 7, 3) := by decide +kernel
theorem dX11_compare_147 : decode cX11_compare 147 = .ok (.iconst 3, 1) := by decide +kernel
theorem dX11_compare_148 : decode cX11_compare 148 = .ok (.goto 4, 3) := by decide +kernel
theorem dX11_compare_151 : decode cX11_compare 151 = .ok (.iconst 4, 1) := by decide +kernel
theorem dX11_compare_152 : decode cX11_compare 152 = .ok (.istore 4, 2) := by decide +kernel
theorem dX11_compare_154 : decode cX11_compare 154 = .ok (.aload_n 0, 1) := by decide +kernel
theorem dX11_compare_155 : decode cX11_compare 155 = .ok (.invokevirtual 168, 3) := by decide +kernel
theorem dX11_compare_158 : decode cX11_compare 158 = .ok (.ifCond .ne 5, 3) := by decide +kernel
theorem dX11_compare_161 : decode cX11_compare 161 = .ok (.iconst 0, 1) := by decide +kernel
theorem dX11_compare_162 : decode cX11_compare 162 = .ok (.ireturn, 1) := by decide +kernel
theorem dX11_compare_163 : decode cX11_compare 163 = .ok (.aload_n 0, 1) := by decide +kernel
theorem dX11_compare_164 : decode cX11_compare 164 = .ok (.bipush 6, 2) := by decide +kernel
theorem dX11_compare_166 : decode cX11_compare 166 = .ok (.iload 4, 2) := by decide +kernel
theorem dX11_compare_168 : decode cX11_compare 168 = .ok (.iadd, 1) := by decide +kernel
theorem dX11_compare_169 : decode cX11_compare 169 = .ok (.iconst 0, 1) := by decide +kernel
theorem dX11_compare_170 : decode cX11_compare 170 = .ok (.invokevirtual 147, 3) := by decide +kernel
theorem dX11_compare_173 : decode cX11_compare 173 = .ok (.iconst 1, 1) := by decide +kernel
theorem dX11_compare_174 : decode cX11_compare 174 = .ok (.ireturn, 1) := by decide +kernel
theorem dX11_fact_0 : decode cX11_fact 0 = .ok (.iconst 1, 1) := by decide +kernel
theorem dX11_fact_1 : decode cX11_fact 1 = .ok (.istore_n 1, 1) := by decide +kernel
theorem dX11_fact_2 : decode cX11_fact 2 = .ok (.iload_n 1, 1) := by decide +kernel
theorem dX11_fact_3 : decode cX11_fact 3 = .ok (.ifCond .eq 72, 3) := by decide +kernel
theorem dX11_fact_6 : decode cX11_fact 6 = .ok (.iconst 0, 1) := by decide +kernel
theorem dX11_fact_7 : decode cX11_fact 7 = .ok (.istore_n 1, 1) := by decide +kernel
theorem dX11_fact_8 : decode cX11_fact 8 = .ok (.aload_n 0, 1) := by decide +kernel
theorem dX11_fact_9 : decode cX11_fact 9 = .ok (.invokevirtual 84, 3) := by decide +kernel
theorem dX11_fact_12 : decode cX11_fact 12 = .ok (.istore_n 2, 1) := by decide +kernel
theorem dX11_fact_13 : decode cX11_fact 13 = .ok (.aload_n 0, 1) := by decide +kernel
theorem dX11_fact_14 : decode cX11_fact 14 = .ok (.ldc2_w 171, 3) := by decide +kernel
theorem dX11_fact_17 : decode cX11_fact 17 = .ok (.invokevirtual 92, 3) := by decide +kernel
theorem dX11_fact_20 : decode cX11_fact 20 = .ok (.ifCond .eq 23, 3) := by decide +kernel
theorem dX11_fact_23 : decode cX11_fact 23 = .ok (.aload_n 0, 1) := by decide +kernel
theorem dX11_fact_24 : decode cX11_fact 24 = .ok (.bipush 11, 2) := by decide +kernel
theorem dX11_fact_26 : decode cX11_fact 26 = .ok (.invokevirtual 173, 3) := by decide +kernel
theorem dX11_fact_29 : decode cX11_fact 29 = .ok (.ifCond .ne 5, 3) := by decide +kernel
theorem dX11_fact_32 : decode cX11_fact 32 = .ok (.iconst 0, 1) := by decide +kernel
theorem dX11_fact_33 : decode cX11_fact 33 = .ok (.ireturn, 1) := by decide +kernel
theorem dX11_fact_34 : decode cX11_fact 34 = .ok (.aload_n 0, 1) := by decide +kernel
theorem dX11_fact_35 : decode cX11_fact 35 = .ok (.invokevirtual 96, 3) := by decide +kernel
theorem dX11_fact_38 : decode cX11_fact 38 = .ok (.iconst 1, 1) := by decide +kernel
theorem dX11_fact_39 : decode cX11_fact 39 = .ok (.istore_n 1, 1) := by decide +kernel
theorem dX11_fact_40 : decode cX11_fact 40 = .ok (.goto 32, 3) := by decide +kernel
theorem dX11_fact_43 : decode cX11_fact 43 = .ok (.iload_n 2, 1) := by decide +kernel
theorem dX11_fact_44 : decode cX11_fact 44 = .ok (.bipush 91, 2) := by decide +kernel
theorem dX11_fact_46 : decode cX11_fact 46 = .ok (.if_icmp .ne 26, 3) := by decide +kernel
theorem dX11_fact_49 : decode cX11_fact 49 = .ok (.aload_n 0, 1) := by decide +kernel
theorem dX11_fact_50 : decode cX11_fact 50 = .ok (.bipush 91, 2) := by decide +kernel
theorem dX11_fact_52 : decode cX11_fact 52 = .ok (.invokevirtual 173, 3) := by decide +kernel
theorem dX11_fact_55 : decode cX11_fact 55 = .ok (.ifCond .ne 5, 3) := by decide +kernel
theorem dX11_fact_58 : decode cX11_fact 58 = .ok (.iconst 0, 1) := by decide +kernel
theorem dX11_fact_59 : decode cX11_fact 59 = .ok (.ireturn, 1) := by decide +kernel
theorem dX11_fact_60 : decode cX11_fact 60 = .ok (.aload_n 0, 1) := by decide +kernel
theorem dX11_fact_61 : decode cX11_fact 61 = .ok (.dup, 1) := by decide +kernel
theorem dX11_fact_62 : decode cX11_fact 62 = .ok (.getfield 81, 3) := by decide +kernel
theorem dX11_fact_65 : decode cX11_fact 65 = .ok (.iconst 1, 1) := by decide +kernel
theorem dX11_fact_66 : decode cX11_fact 66 = .ok (.iadd, 1) := by decide +kernel
theorem dX11_fact_67 : decode cX11_fact 67 = .ok (.putfield 81, 3) := by decide +kernel
theorem dX11_fact_70 : decode cX11_fact 70 = .ok (.iconst 1, 1) := by decide +kernel
theorem dX11_fact_71 : decode cX11_fact 71 = .ok (.istore_n 1, 1) := by decide +kernel
theorem dX11_fact_72 : decode cX11_fact 72 = .ok (.goto (-70), 3) := by decide +kernel
theorem dX11_fact_75 : decode cX11_fact 75 = .ok (.aload_n 0, 1) := by decide +kernel
theorem dX11_fact_76 : decode cX11_fact 76 = .ok (.invokevirtual 176, 3) := by decide +kernel
theorem dX11_fact_79 : decode cX11_fact 79 = .ok (.ireturn, 1) := by decide +kernel
theorem dX11_isInside_0 : decode cX11_isInside 0 = .ok (.iconst 0, 1) := by decide +kernel
theorem dX11_isInside_1 : decode cX11_isInside 1 = .ok (.istore_n 1, 1) := by decide +kernel
theorem dX11_isInside_2 : decode cX11_isInside 2 = .ok (.iload_n 1, 1) := by decide +kernel
theorem dX11_isInside_3 : decode cX11_isInside 3 = .ok (.aload_n 0, 1) := by decide +kernel
theorem dX11_isInside_4 : decode cX11_isInside 4 = .ok (.getfield 140, 3) := by decide +kernel
theorem dX11_isInside_7 : decode cX11_isInside 7 = .ok (.if_icmp .ge 22, 3) := by decide +kernel
theorem dX11_isInside_10 : decode cX11_isInside 10 = .ok (.aload_n 0, 1) := by decide +kernel
theorem dX11_isInside_11 : decode cX11_isInside 11 = .ok (.getfield 35, 3) := by decide +kernel
theorem dX11_isInside_14 : decode cX11_isInside 14 = .ok (.iload_n 1, 1) := by decide +kernel
theorem dX11_isInside_15 : decode cX11_isInside 15 = .ok (.iaload, 1) := by decide +kernel
theorem dX11_isInside_16 : decode cX11_isInside 16 = .ok (.bipush 91, 2) := by decide +kernel
theorem dX11_isInside_18 : decode cX11_isInside 18 = .ok (.if_icmp .ne 5, 3) := by decide +kernel
theorem dX11_isInside_21 : decode cX11_isInside 21 = .ok (.iconst 1, 1) := by decide +kernel
theorem dX11_isInside_22 : decode cX11_isInside 22 = .ok (.ireturn, 1) := by decide +kernel
theorem dX11_isInside_23 : decode cX11_isInside 23 = .ok (.iinc 1 1, 3) := by decide +kernel
theorem dX11_isInside_26 : decode cX11_isInside 26 = .ok (.goto (-24), 3) := by decide +kernel
theorem dX11_isInside_29 : decode cX11_isInside 29 = .ok (.iconst 0, 1) := by decide +kernel
theorem dX11_isInside_30 : decode cX11_isInside 30 = .ok (.ireturn, 1) := by decide +kernel
theorem dX11_closes_0 : decode cX11_closes 0 = .ok (.aload_n 0, 1) := by decide +kernel
theorem dX11_closes_1 : decode cX11_closes 1 = .ok (.iconst 3, 1) := by decide +kernel
theorem dX11_closes_2 : decode cX11_closes 2 = .ok (.invokevirtual 179, 3) := by decide +kernel
theorem dX11_closes_5 : decode cX11_closes 5 = .ok (.aload_n 0, 1) := by decide +kernel
theorem dX11_closes_6 : decode cX11_closes 6 = .ok (.invokevirtual 84, 3) := by decide +kernel
theorem dX11_closes_9 : decode cX11_closes 9 = .ok (.bipush 93, 2) := by decide +kernel
theorem dX11_closes_11 : decode cX11_closes 11 = .ok (.if_icmp .ne 53, 3) := by decide +kernel
theorem dX11_closes_14 : decode cX11_closes 14 = .ok (.aload_n 0, 1) := by decide +kernel
theorem dX11_closes_15 : decode cX11_closes 15 = .ok (.invokevirtual 182, 3) := by decide +kernel
theorem dX11_closes_18 : decode cX11_closes 18 = .ok (.ifCond .eq 46, 3) := by decide +kernel
theorem dX11_closes_21 : decode cX11_closes 21 = .ok (.aload_n 0, 1) := by decide +kernel
theorem dX11_closes_22 : decode cX11_closes 22 = .ok (.iconst 1, 1) := by decide +kernel
theorem dX11_closes_23 : decode cX11_closes 23 = .ok (.invokevirtual 179, 3) := by decide +kernel
theorem dX11_closes_26 : decode cX11_closes 26 = .ok (.aload_n 0, 1) := by decide +kernel
theorem dX11_closes_27 : decode cX11_closes 27 = .ok (.dup, 1) := by decide +kernel
theorem dX11_closes_28 : decode cX11_closes 28 = .ok (.getfield 140, 3) := by decide +kernel
theorem dX11_closes_31 : decode cX11_closes 31 = .ok (.iconst 1, 1) := by decide +kernel
theorem dX11_closes_32 : decode cX11_closes 32 = .ok (.isub, 1) := by decide +kernel
theorem dX11_closes_33 : decode cX11_closes 33 = .ok (.putfield 140, 3) := by decide +kernel
theorem dX11_closes_36 : decode cX11_closes 36 = .ok (.aload_n 0, 1) := by decide +kernel
theorem dX11_closes_37 : decode cX11_closes 37 = .ok (.dup, 1) := by decide +kernel
theorem dX11_closes_38 : decode cX11_closes 38 = .ok (.getfield 137, 3) := by decide +kernel
theorem dX11_closes_41 : decode cX11_closes 41 = .ok (.iconst 1, 1) := by decide +kernel
theorem dX11_closes_42 : decode cX11_closes 42 = .ok (.isub, 1) := by decide +kernel
theorem dX11_closes_43 : decode cX11_closes 43 = .ok (.putfield 137, 3) := by decide +kernel
theorem dX11_closes_46 : decode cX11_closes 46 = .ok (.aload_n 0, 1) := by decide +kernel
theorem dX11_closes_47 : decode cX11_closes 47 = .ok (.dup, 1) := by decide +kernel
theorem dX11_closes_48 : decode cX11_closes 48 = .ok (.getfield 81, 3) := by decide +kernel
theorem dX11_closes_51 : decode cX11_closes 51 = .ok (.iconst 1, 1) := by decide +kernel
theorem dX11_closes_52 : decode cX11_closes 52 = .ok (.iadd, 1) := by decide +kernel
theorem dX11_closes_53 : decode cX11_closes 53 = .ok (.putfield 81, 3) := by decide +kernel
theorem dX11_closes_56 : decode cX11_closes 56 = .ok (.aload_n 0, 1) := by decide +kernel
theorem dX11_closes_57 : decode cX11_closes 57 = .ok (.iconst 3, 1) := by decide +kernel
theorem dX11_closes_58 : decode cX11_closes 58 = .ok (.invokevirtual 179, 3) := by decide +kernel
theorem dX11_closes_61 : decode cX11_closes 61 = .ok (.goto (-56), 3) := by decide +kernel
theorem dX11_closes_64 : decode cX11_closes 64 = .ok (.return_, 1) := by decide +kernel
theorem dX11_tested_0 : decode cX11_tested 0 = .ok (.aload_n 0, 1) := by decide +kernel
theorem dX11_tested_1 : decode cX11_tested 1 = .ok (.iconst 0, 1) := by decide +kernel
theorem dX11_tested_2 : decode cX11_tested 2 = .ok (.putfield 140, 3) := by decide +kernel
theorem dX11_tested_5 : decode cX11_tested 5 = .ok (.aload_n 0, 1) := by decide +kernel
theorem dX11_tested_6 : decode cX11_tested 6 = .ok (.iconst 0, 1) := by decide +kernel
theorem dX11_tested_7 : decode cX11_tested 7 = .ok (.putfield 137, 3) := by decide +kernel
theorem dX11_tested_10 : decode cX11_tested 10 = .ok (.iconst 1, 1) := by decide +kernel
theorem dX11_tested_11 : decode cX11_tested 11 = .ok (.istore_n 1, 1) := by decide +kernel
theorem dX11_tested_12 : decode cX11_tested 12 = .ok (.iload_n 1, 1) := by decide +kernel
theorem dX11_tested_13 : decode cX11_tested 13 = .ok (.ifCond .eq 99, 3) := by decide +kernel
theorem dX11_tested_16 : decode cX11_tested 16 = .ok (.aload_n 0, 1) := by decide +kernel
theorem dX11_tested_17 : decode cX11_tested 17 = .ok (.invokevirtual 185, 3) := by decide +kernel
theorem dX11_tested_20 : decode cX11_tested 20 = .ok (.ifCond .ne 5, 3) := by decide +kernel
theorem dX11_tested_23 : decode cX11_tested 23 = .ok (.iconst 0, 1) := by decide +kernel
theorem dX11_tested_24 : decode cX11_tested 24 = .ok (.ireturn, 1) := by decide +kernel
theorem dX11_tested_25 : decode cX11_tested 25 = .ok (.aload_n 0, 1) := by decide +kernel
theorem dX11_tested_26 : decode cX11_tested 26 = .ok (.invokevirtual 188, 3) := by decide +kernel
theorem dX11_tested_29 : decode cX11_tested 29 = .ok (.aload_n 0, 1) := by decide +kernel
theorem dX11_tested_30 : decode cX11_tested 30 = .ok (.ldc2_w 191, 3) := by decide +kernel
theorem dX11_tested_33 : decode cX11_tested 33 = .ok (.invokevirtual 92, 3) := by decide +kernel
theorem dX11_tested_36 : decode cX11_tested 36 = .ok (.ifCond .ne 13, 3) := by decide +kernel
theorem dX11_tested_39 : decode cX11_tested 39 = .ok (.aload_n 0, 1) := by decide +kernel
theorem dX11_tested_40 : decode cX11_tested 40 = .ok (.ldc2_w 193, 3) := by decide +kernel
theorem dX11_tested_43 : decode cX11_tested 43 = .ok (.invokevirtual 92, 3) := by decide +kernel
theorem dX11_tested_46 : decode cX11_tested 46 = .ok (.ifCond .eq 7, 3) := by decide +kernel
theorem dX11_tested_49 : decode cX11_tested 49 = .ok (.iconst 1, 1) := by decide +kernel
theorem dX11_tested_50 : decode cX11_tested 50 = .ok (.goto 4, 3) := by decide +kernel
theorem dX11_tested_53 : decode cX11_tested 53 = .ok (.iconst 0, 1) := by decide +kernel
theorem dX11_tested_54 : decode cX11_tested 54 = .ok (.istore_n 1, 1) := by decide +kernel
theorem dX11_tested_55 : decode cX11_tested 55 = .ok (.iload_n 1, 1) := by decide +kernel
theorem dX11_tested_56 : decode cX11_tested 56 = .ok (.ifCond .eq (-44), 3) := by decide +kernel
theorem dX11_tested_59 : decode cX11_tested 59 = .ok (.aload_n 0, 1) := by decide +kernel
theorem dX11_tested_60 : decode cX11_tested 60 = .ok (.ldc2_w 191, 3) := by decide +kernel
theorem dX11_tested_63 : decode cX11_tested 63 = .ok (.invokevirtual 92, 3) := by decide +kernel
theorem dX11_tested_66 : decode cX11_tested 66 = .ok (.ifCond .eq 8, 3) := by decide +kernel
theorem dX11_tested_69 : decode cX11_tested 69 = .ok (.bipush 12, 2) := by decide +kernel
theorem dX11_tested_71 : decode cX11_tested 71 = .ok (.goto 5, 3) := by decide +kernel
theorem dX11_tested_74 : decode cX11_tested 74 = .ok (.bipush 13, 2) := by decide +kernel
theorem dX11_tested_76 : decode cX11_tested 76 = .ok (.istore_n 2, 1) := by decide +kernel
theorem dX11_tested_77 : decode cX11_tested 77 = .ok (.aload_n 0, 1) := by decide +kernel
theorem dX11_tested_78 : decode cX11_tested 78 = .ok (.invokevirtual 96, 3) := by decide +kernel
theorem dX11_tested_81 : decode cX11_tested 81 = .ok (.aload_n 0, 1) := by decide +kernel
theorem dX11_tested_82 : decode cX11_tested 82 = .ok (.iload_n 2, 1) := by decide +kernel
theorem dX11_tested_83 : decode cX11_tested 83 = .ok (.invokestatic 143, 3) := by decide +kernel
theorem dX11_tested_86 : decode cX11_tested 86 = .ok (.invokevirtual 179, 3) := by decide +kernel
theorem dX11_tested_89 : decode cX11_tested 89 = .ok (.aload_n 0, 1) := by decide +kernel
theorem dX11_tested_90 : decode cX11_tested 90 = .ok (.getfield 35, 3) := by decide +kernel
theorem dX11_tested_93 : decode cX11_tested 93 = .ok (.aload_n 0, 1) := by decide +kernel
theorem dX11_tested_94 : decode cX11_tested 94 = .ok (.getfield 140, 3) := by decide +kernel
theorem dX11_tested_97 : decode cX11_tested 97 = .ok (.iload_n 2, 1) := by decide +kernel
theorem dX11_tested_98 : decode cX11_tested 98 = .ok (.iastore, 1) := by decide +kernel
theorem dX11_tested_99 : decode cX11_tested 99 = .ok (.aload_n 0, 1) := by decide +kernel
theorem dX11_tested_100 : decode cX11_tested 100 = .ok (.dup, 1) := by decide +kernel
theorem dX11_tested_101 : decode cX11_tested 101 = .ok (.getfield 140, 3) := by decide +kernel
theorem dX11_tested_104 : decode cX11_tested 104 = .ok (.iconst 1, 1) := by decide +kernel
theorem dX11_tested_105 : decode cX11_tested 105 = .ok (.iadd, 1) := by decide +kernel
theorem dX11_tested_106 : decode cX11_tested 106 = .ok (.putfield 140, 3) := by decide +kernel
theorem dX11_tested_109 : decode cX11_tested 109 = .ok (.goto (-97), 3) := by decide +kernel
theorem dX11_tested_112 : decode cX11_tested 112 = .ok (.aload_n 0, 1) := by decide +kernel
theorem dX11_tested_113 : decode cX11_tested 113 = .ok (.invokevirtual 182, 3) := by decide +kernel
theorem dX11_tested_116 : decode cX11_tested 116 = .ok (.ifCond .eq 18, 3) := by decide +kernel
theorem dX11_tested_119 : decode cX11_tested 119 = .ok (.aload_n 0, 1) := by decide +kernel
theorem dX11_tested_120 : decode cX11_tested 120 = .ok (.invokevirtual 84, 3) := by decide +kernel
theorem dX11_tested_123 : decode cX11_tested 123 = .ok (.pop, 1) := by decide +kernel
theorem dX11_tested_124 : decode cX11_tested 124 = .ok (.aload_n 0, 1) := by decide +kernel
theorem dX11_tested_125 : decode cX11_tested 125 = .ok (.iconst 0, 1) := by decide +kernel
theorem dX11_tested_126 : decode cX11_tested 126 = .ok (.aload_n 0, 1) := by decide +kernel
theorem dX11_tested_127 : decode cX11_tested 127 = .ok (.getfield 81, 3) := by decide +kernel
theorem dX11_tested_130 : decode cX11_tested 130 = .ok (.invokevirtual 102, 3) := by decide +kernel
theorem dX11_tested_133 : decode cX11_tested 133 = .ok (.ireturn, 1) := by decide +kernel
theorem dX11_tested_134 : decode cX11_tested 134 = .ok (.aload_n 0, 1) := by decide +kernel
theorem dX11_tested_135 : decode cX11_tested 135 = .ok (.iconst 1, 1) := by decide +kernel
theorem dX11_tested_136 : decode cX11_tested 136 = .ok (.invokevirtual 179, 3) := by decide +kernel
theorem dX11_tested_139 : decode cX11_tested 139 = .ok (.iconst 1, 1) := by decide +kernel
theorem dX11_tested_140 : decode cX11_tested 140 = .ok (.ireturn, 1) := by decide +kernel
theorem dX11_isTurnHere_0 : decode cX11_isTurnHere 0 = .ok (.aload_n 0, 1) := by decide +kernel
theorem dX11_isTurnHere_1 : decode cX11_isTurnHere 1 = .ok (.invokevirtual 96, 3) := by decide +kernel
theorem dX11_isTurnHere_4 : decode cX11_isTurnHere 4 = .ok (.bipush 48, 2) := by decide +kernel
theorem dX11_isTurnHere_6 : decode cX11_isTurnHere 6 = .ok (.aload_n 0, 1) := by decide +kernel
theorem dX11_isTurnHere_7 : decode cX11_isTurnHere 7 = .ok (.getfield 131, 3) := by decide +kernel
theorem dX11_isTurnHere_10 : decode cX11_isTurnHere 10 = .ok (.imul, 1) := by decide +kernel
theorem dX11_isTurnHere_11 : decode cX11_isTurnHere 11 = .ok (.iconst 4, 1) := by decide +kernel
theorem dX11_isTurnHere_12 : decode cX11_isTurnHere 12 = .ok (.aload_n 0, 1) := by decide +kernel
theorem dX11_isTurnHere_13 : decode cX11_isTurnHere 13 = .ok (.getfield 23, 3) := by decide +kernel
theorem dX11_isTurnHere_16 : decode cX11_isTurnHere 16 = .ok (.aload_n 0, 1) := by decide +kernel
theorem dX11_isTurnHere_17 : decode cX11_isTurnHere 17 = .ok (.getfield 131, 3) := by decide +kernel
theorem dX11_isTurnHere_20 : decode cX11_isTurnHere 20 = .ok (.iaload, 1) := by decide +kernel
theorem dX11_isTurnHere_21 : decode cX11_isTurnHere 21 = .ok (.imul, 1) := by decide +kernel
theorem dX11_isTurnHere_22 : decode cX11_isTurnHere 22 = .ok (.iadd, 1) := by decide +kernel
theorem dX11_isTurnHere_23 : decode cX11_isTurnHere 23 = .ok (.istore_n 1, 1) := by decide +kernel
theorem dX11_isTurnHere_24 : decode cX11_isTurnHere 24 = .ok (.aload_n 0, 1) := by decide +kernel
theorem dX11_isTurnHere_25 : decode cX11_isTurnHere 25 = .ok (.getfield 20, 3) := by decide +kernel
theorem dX11_isTurnHere_28 : decode cX11_isTurnHere 28 = .ok (.iload_n 1, 1) := by decide +kernel
theorem dX11_isTurnHere_29 : decode cX11_isTurnHere 29 = .ok (.aload_n 0, 1) := by decide +kernel
theorem dX11_isTurnHere_30 : decode cX11_isTurnHere 30 = .ok (.getfield 17, 3) := by decide +kernel
theorem dX11_isTurnHere_33 : decode cX11_isTurnHere 33 = .ok (.aload_n 0, 1) := by decide +kernel
theorem dX11_isTurnHere_34 : decode cX11_isTurnHere 34 = .ok (.getfield 131, 3) := by decide +kernel
theorem dX11_isTurnHere_37 : decode cX11_isTurnHere 37 = .ok (.iaload, 1) := by decide +kernel
theorem dX11_isTurnHere_38 : decode cX11_isTurnHere 38 = .ok (.iastore, 1) := by decide +kernel
theorem dX11_isTurnHere_39 : decode cX11_isTurnHere 39 = .ok (.aload_n 0, 1) := by decide +kernel
theorem dX11_isTurnHere_40 : decode cX11_isTurnHere 40 = .ok (.invokevirtual 168, 3) := by decide +kernel
theorem dX11_isTurnHere_43 : decode cX11_isTurnHere 43 = .ok (.ifCond .ne 5, 3) := by decide +kernel
theorem dX11_isTurnHere_46 : decode cX11_isTurnHere 46 = .ok (.iconst 0, 1) := by decide +kernel
theorem dX11_isTurnHere_47 : decode cX11_isTurnHere 47 = .ok (.ireturn, 1) := by decide +kernel
theorem dX11_isTurnHere_48 : decode cX11_isTurnHere 48 = .ok (.aload_n 0, 1) := by decide +kernel
theorem dX11_isTurnHere_49 : decode cX11_isTurnHere 49 = .ok (.getfield 20, 3) := by decide +kernel
theorem dX11_isTurnHere_52 : decode cX11_isTurnHere 52 = .ok (.iload_n 1, 1) := by decide +kernel
theorem dX11_isTurnHere_53 : decode cX11_isTurnHere 53 = .ok (.iconst 1, 1) := by decide +kernel
theorem dX11_isTurnHere_54 : decode cX11_isTurnHere 54 = .ok (.iadd, 1) := by decide +kernel
theorem dX11_isTurnHere_55 : decode cX11_isTurnHere 55 = .ok (.aload_n 0, 1) := by decide +kernel
theorem dX11_isTurnHere_56 : decode cX11_isTurnHere 56 = .ok (.getfield 17, 3) := by decide +kernel
theorem dX11_isTurnHere_59 : decode cX11_isTurnHere 59 = .ok (.aload_n 0, 1) := by decide +kernel
theorem dX11_isTurnHere_60 : decode cX11_isTurnHere 60 = .ok (.getfield 131, 3) := by decide +kernel
theorem dX11_isTurnHere_63 : decode cX11_isTurnHere 63 = .ok (.iaload, 1) := by decide +kernel
theorem dX11_isTurnHere_64 : decode cX11_isTurnHere 64 = .ok (.iastore, 1) := by decide +kernel
theorem dX11_isTurnHere_65 : decode cX11_isTurnHere 65 = .ok (.aload_n 0, 1) := by decide +kernel
theorem dX11_isTurnHere_66 : decode cX11_isTurnHere 66 = .ok (.getfield 20, 3) := by decide +kernel
theorem dX11_isTurnHere_69 : decode cX11_isTurnHere 69 = .ok (.iload_n 1, 1) := by decide +kernel
theorem dX11_isTurnHere_70 : decode cX11_isTurnHere 70 = .ok (.iconst 2, 1) := by decide +kernel
theorem dX11_isTurnHere_71 : decode cX11_isTurnHere 71 = .ok (.iadd, 1) := by decide +kernel
theorem dX11_isTurnHere_72 : decode cX11_isTurnHere 72 = .ok (.iconst (-1), 1) := by decide +kernel
theorem dX11_isTurnHere_73 : decode cX11_isTurnHere 73 = .ok (.iastore, 1) := by decide +kernel
theorem dX11_isTurnHere_74 : decode cX11_isTurnHere 74 = .ok (.aload_n 0, 1) := by decide +kernel
theorem dX11_isTurnHere_75 : decode cX11_isTurnHere 75 = .ok (.ldc2_w 195, 3) := by decide +kernel
theorem dX11_isTurnHere_78 : decode cX11_isTurnHere 78 = .ok (.invokevirtual 197, 3) := by decide +kernel
theorem dX11_isTurnHere_81 : decode cX11_isTurnHere 81 = .ok (.ifCond .eq 29, 3) := by decide +kernel
theorem dX11_isTurnHere_84 : decode cX11_isTurnHere 84 = .ok (.aload_n 0, 1) := by decide +kernel
theorem dX11_isTurnHere_85 : decode cX11_isTurnHere 85 = .ok (.getfield 20, 3) := by decide +kernel
theorem dX11_isTurnHere_88 : decode cX11_isTurnHere 88 = .ok (.iload_n 1, 1) := by decide +kernel
theorem dX11_isTurnHere_89 : decode cX11_isTurnHere 89 = .ok (.iconst 2, 1) := by decide +kernel
theorem dX11_isTurnHere_90 : decode cX11_isTurnHere 90 = .ok (.iadd, 1) := by decide +kernel
theorem dX11_isTurnHere_91 : decode cX11_isTurnHere 91 = .ok (.aload_n 0, 1) := by decide +kernel
theorem dX11_isTurnHere_92 : decode cX11_isTurnHere 92 = .ok (.getfield 17, 3) := by decide +kernel
theorem dX11_isTurnHere_95 : decode cX11_isTurnHere 95 = .ok (.aload_n 0, 1) := by decide +kernel
theorem dX11_isTurnHere_96 : decode cX11_isTurnHere 96 = .ok (.getfield 131, 3) := by decide +kernel
theorem dX11_isTurnHere_99 : decode cX11_isTurnHere 99 = .ok (.iaload, 1) := by decide +kernel
theorem dX11_isTurnHere_100 : decode cX11_isTurnHere 100 = .ok (.iastore, 1) := by decide +kernel
theorem dX11_isTurnHere_101 : decode cX11_isTurnHere 101 = .ok (.aload_n 0, 1) := by decide +kernel
theorem dX11_isTurnHere_102 : decode cX11_isTurnHere 102 = .ok (.invokevirtual 200, 3) := by decide +kernel
theorem dX11_isTurnHere_105 : decode cX11_isTurnHere 105 = .ok (.ifCond .ne 5, 3) := by decide +kernel
theorem dX11_isTurnHere_108 : decode cX11_isTurnHere 108 = .ok (.iconst 0, 1) := by decide +kernel
theorem dX11_isTurnHere_109 : decode cX11_isTurnHere 109 = .ok (.ireturn, 1) := by decide +kernel
theorem dX11_isTurnHere_110 : decode cX11_isTurnHere 110 = .ok (.aload_n 0, 1) := by decide +kernel
theorem dX11_isTurnHere_111 : decode cX11_isTurnHere 111 = .ok (.getfield 20, 3) := by decide +kernel
theorem dX11_isTurnHere_114 : decode cX11_isTurnHere 114 = .ok (.iload_n 1, 1) := by decide +kernel
theorem dX11_isTurnHere_115 : decode cX11_isTurnHere 115 = .ok (.iconst 3, 1) := by decide +kernel
theorem dX11_isTurnHere_116 : decode cX11_isTurnHere 116 = .ok (.iadd, 1) := by decide +kernel
theorem dX11_isTurnHere_117 : decode cX11_isTurnHere 117 = .ok (.aload_n 0, 1) := by decide +kernel
theorem dX11_isTurnHere_118 : decode cX11_isTurnHere 118 = .ok (.getfield 17, 3) := by decide +kernel
theorem dX11_isTurnHere_121 : decode cX11_isTurnHere 121 = .ok (.aload_n 0, 1) := by decide +kernel
theorem dX11_isTurnHere_122 : decode cX11_isTurnHere 122 = .ok (.getfield 131, 3) := by decide +kernel
theorem dX11_isTurnHere_125 : decode cX11_isTurnHere 125 = .ok (.iaload, 1) := by decide +kernel
theorem dX11_isTurnHere_126 : decode cX11_isTurnHere 126 = .ok (.iastore, 1) := by decide +kernel
theorem dX11_isTurnHere_127 : decode cX11_isTurnHere 127 = .ok (.aload_n 0, 1) := by decide +kernel
theorem dX11_isTurnHere_128 : decode cX11_isTurnHere 128 = .ok (.getfield 23, 3) := by decide +kernel
theorem dX11_isTurnHere_131 : decode cX11_isTurnHere 131 = .ok (.aload_n 0, 1) := by decide +kernel
theorem dX11_isTurnHere_132 : decode cX11_isTurnHere 132 = .ok (.getfield 131, 3) := by decide +kernel
theorem dX11_isTurnHere_135 : decode cX11_isTurnHere 135 = .ok (.dup2, 1) := by decide +kernel
theorem dX11_isTurnHere_136 : decode cX11_isTurnHere 136 = .ok (.iaload, 1) := by decide +kernel
theorem dX11_isTurnHere_137 : decode cX11_isTurnHere 137 = .ok (.iconst 1, 1) := by decide +kernel
theorem dX11_isTurnHere_138 : decode cX11_isTurnHere 138 = .ok (.iadd, 1) := by decide +kernel
theorem dX11_isTurnHere_139 : decode cX11_isTurnHere 139 = .ok (.iastore, 1) := by decide +kernel
theorem dX11_isTurnHere_140 : decode cX11_isTurnHere 140 = .ok (.iconst 1, 1) := by decide +kernel
theorem dX11_isTurnHere_141 : decode cX11_isTurnHere 141 = .ok (.ireturn, 1) := by decide +kernel
theorem dX11_mostOf_0 : decode cX11_mostOf 0 = .ok (.iload_n 0, 1) := by decide +kernel
theorem dX11_mostOf_1 : decode cX11_mostOf 1 = .ok (.iconst 3, 1) := by decide +kernel
theorem dX11_mostOf_2 : decode cX11_mostOf 2 = .ok (.if_icmp .ge 8, 3) := by decide +kernel
theorem dX11_mostOf_5 : decode cX11_mostOf 5 = .ok (.bipush 9, 2) := by decide +kernel
theorem dX11_mostOf_7 : decode cX11_mostOf 7 = .ok (.goto 24, 3) := by decide +kernel
theorem dX11_mostOf_10 : decode cX11_mostOf 10 = .ok (.iload_n 0, 1) := by decide +kernel
theorem dX11_mostOf_11 : decode cX11_mostOf 11 = .ok (.iconst 3, 1) := by decide +kernel
theorem dX11_mostOf_12 : decode cX11_mostOf 12 = .ok (.if_icmp .ne 8, 3) := by decide +kernel
theorem dX11_mostOf_15 : decode cX11_mostOf 15 = .ok (.bipush 99, 2) := by decide +kernel
theorem dX11_mostOf_17 : decode cX11_mostOf 17 = .ok (.goto 14, 3) := by decide +kernel
theorem dX11_mostOf_20 : decode cX11_mostOf 20 = .ok (.iload_n 0, 1) := by decide +kernel
theorem dX11_mostOf_21 : decode cX11_mostOf 21 = .ok (.iconst 4, 1) := by decide +kernel
theorem dX11_mostOf_22 : decode cX11_mostOf 22 = .ok (.if_icmp .ne 7, 3) := by decide +kernel
theorem dX11_mostOf_25 : decode cX11_mostOf 25 = .ok (.iconst 3, 1) := by decide +kernel
theorem dX11_mostOf_26 : decode cX11_mostOf 26 = .ok (.goto 5, 3) := by decide +kernel
theorem dX11_mostOf_29 : decode cX11_mostOf 29 = .ok (.bipush 7, 2) := by decide +kernel
theorem dX11_mostOf_31 : decode cX11_mostOf 31 = .ok (.ireturn, 1) := by decide +kernel
theorem dX11_isCockHere_0 : decode cX11_isCockHere 0 = .ok (.aload_n 0, 1) := by decide +kernel
theorem dX11_isCockHere_1 : decode cX11_isCockHere 1 = .ok (.getfield 203, 3) := by decide +kernel
theorem dX11_isCockHere_4 : decode cX11_isCockHere 4 = .ok (.bipush 12, 2) := by decide +kernel
theorem dX11_isCockHere_6 : decode cX11_isCockHere 6 = .ok (.if_icmp .ne 10, 3) := by decide +kernel
theorem dX11_isCockHere_9 : decode cX11_isCockHere 9 = .ok (.aload_n 0, 1) := by decide +kernel
theorem dX11_isCockHere_10 : decode cX11_isCockHere 10 = .ok (.iconst 4, 1) := by decide +kernel
theorem dX11_isCockHere_11 : decode cX11_isCockHere 11 = .ok (.iload_n 1, 1) := by decide +kernel
theorem dX11_isCockHere_12 : decode cX11_isCockHere 12 = .ok (.invokevirtual 102, 3) := by decide +kernel
theorem dX11_isCockHere_15 : decode cX11_isCockHere 15 = .ok (.ireturn, 1) := by decide +kernel
theorem dX11_isCockHere_16 : decode cX11_isCockHere 16 = .ok (.aload_n 0, 1) := by decide +kernel
theorem dX11_isCockHere_17 : decode cX11_isCockHere 17 = .ok (.invokevirtual 96, 3) := by decide +kernel
theorem dX11_isCockHere_20 : decode cX11_isCockHere 20 = .ok (.iconst 0, 1) := by decide +kernel
theorem dX11_isCockHere_21 : decode cX11_isCockHere 21 = .ok (.istore_n 2, 1) := by decide +kernel
theorem dX11_isCockHere_22 : decode cX11_isCockHere 22 = .ok (.iload_n 2, 1) := by decide +kernel
theorem dX11_isCockHere_23 : decode cX11_isCockHere 23 = .ok (.bipush 6, 2) := by decide +kernel
theorem dX11_isCockHere_25 : decode cX11_isCockHere 25 = .ok (.if_icmp .ge 41, 3) := by decide +kernel
theorem dX11_isCockHere_28 : decode cX11_isCockHere 28 = .ok (.aload_n 0, 1) := by decide +kernel
theorem dX11_isCockHere_29 : decode cX11_isCockHere 29 = .ok (.iconst 0, 1) := by decide +kernel
theorem dX11_isCockHere_30 : decode cX11_isCockHere 30 = .ok (.iload_n 2, 1) := by decide +kernel
theorem dX11_isCockHere_31 : decode cX11_isCockHere 31 = .ok (.invokestatic 206, 3) := by decide +kernel
theorem dX11_isCockHere_34 : decode cX11_isCockHere 34 = .ok (.invokevirtual 152, 3) := by decide +kernel
theorem dX11_isCockHere_37 : decode cX11_isCockHere 37 = .ok (.ifCond .ne 5, 3) := by decide +kernel
theorem dX11_isCockHere_40 : decode cX11_isCockHere 40 = .ok (.iconst 0, 1) := by decide +kernel
theorem dX11_isCockHere_41 : decode cX11_isCockHere 41 = .ok (.ireturn, 1) := by decide +kernel
theorem dX11_isCockHere_42 : decode cX11_isCockHere 42 = .ok (.aload_n 0, 1) := by decide +kernel
theorem dX11_isCockHere_43 : decode cX11_isCockHere 43 = .ok (.getfield 26, 3) := by decide +kernel
theorem dX11_isCockHere_46 : decode cX11_isCockHere 46 = .ok (.bipush 6, 2) := by decide +kernel
theorem dX11_isCockHere_48 : decode cX11_isCockHere 48 = .ok (.aload_n 0, 1) := by decide +kernel
theorem dX11_isCockHere_49 : decode cX11_isCockHere 49 = .ok (.getfield 203, 3) := by decide +kernel
theorem dX11_isCockHere_52 : decode cX11_isCockHere 52 = .ok (.imul, 1) := by decide +kernel
theorem dX11_isCockHere_53 : decode cX11_isCockHere 53 = .ok (.iload_n 2, 1) := by decide +kernel
theorem dX11_isCockHere_54 : decode cX11_isCockHere 54 = .ok (.iadd, 1) := by decide +kernel
theorem dX11_isCockHere_55 : decode cX11_isCockHere 55 = .ok (.aload_n 0, 1) := by decide +kernel
theorem dX11_isCockHere_56 : decode cX11_isCockHere 56 = .ok (.getfield 106, 3) := by decide +kernel
theorem dX11_isCockHere_59 : decode cX11_isCockHere 59 = .ok (.iastore, 1) := by decide +kernel
theorem dX11_isCockHere_60 : decode cX11_isCockHere 60 = .ok (.iinc 2 1, 3) := by decide +kernel
theorem dX11_isCockHere_63 : decode cX11_isCockHere 63 = .ok (.goto (-41), 3) := by decide +kernel
theorem dX11_isCockHere_66 : decode cX11_isCockHere 66 = .ok (.aload_n 0, 1) := by decide +kernel
theorem dX11_isCockHere_67 : decode cX11_isCockHere 67 = .ok (.dup, 1) := by decide +kernel
theorem dX11_isCockHere_68 : decode cX11_isCockHere 68 = .ok (.getfield 203, 3) := by decide +kernel
theorem dX11_isCockHere_71 : decode cX11_isCockHere 71 = .ok (.iconst 1, 1) := by decide +kernel
theorem dX11_isCockHere_72 : decode cX11_isCockHere 72 = .ok (.iadd, 1) := by decide +kernel
theorem dX11_isCockHere_73 : decode cX11_isCockHere 73 = .ok (.putfield 203, 3) := by decide +kernel
theorem dX11_isCockHere_76 : decode cX11_isCockHere 76 = .ok (.iconst 1, 1) := by decide +kernel
theorem dX11_isCockHere_77 : decode cX11_isCockHere 77 = .ok (.ireturn, 1) := by decide +kernel
theorem dX11_isTreeHere_0 : decode cX11_isTreeHere 0 = .ok (.aload_n 0, 1) := by decide +kernel
theorem dX11_isTreeHere_1 : decode cX11_isTreeHere 1 = .ok (.getfield 209, 3) := by decide +kernel
theorem dX11_isTreeHere_4 : decode cX11_isTreeHere 4 = .ok (.bipush 12, 2) := by decide +kernel
theorem dX11_isTreeHere_6 : decode cX11_isTreeHere 6 = .ok (.if_icmp .ne 10, 3) := by decide +kernel
theorem dX11_isTreeHere_9 : decode cX11_isTreeHere 9 = .ok (.aload_n 0, 1) := by decide +kernel
theorem dX11_isTreeHere_10 : decode cX11_isTreeHere 10 = .ok (.iconst 4, 1) := by decide +kernel
theorem dX11_isTreeHere_11 : decode cX11_isTreeHere 11 = .ok (.iload_n 1, 1) := by decide +kernel
theorem dX11_isTreeHere_12 : decode cX11_isTreeHere 12 = .ok (.invokevirtual 102, 3) := by decide +kernel
theorem dX11_isTreeHere_15 : decode cX11_isTreeHere 15 = .ok (.ireturn, 1) := by decide +kernel
theorem dX11_isTreeHere_16 : decode cX11_isTreeHere 16 = .ok (.aload_n 0, 1) := by decide +kernel
theorem dX11_isTreeHere_17 : decode cX11_isTreeHere 17 = .ok (.invokevirtual 96, 3) := by decide +kernel
theorem dX11_isTreeHere_20 : decode cX11_isTreeHere 20 = .ok (.iconst 0, 1) := by decide +kernel
theorem dX11_isTreeHere_21 : decode cX11_isTreeHere 21 = .ok (.istore_n 2, 1) := by decide +kernel
theorem dX11_isTreeHere_22 : decode cX11_isTreeHere 22 = .ok (.iload_n 2, 1) := by decide +kernel
theorem dX11_isTreeHere_23 : decode cX11_isTreeHere 23 = .ok (.iconst 2, 1) := by decide +kernel
theorem dX11_isTreeHere_24 : decode cX11_isTreeHere 24 = .ok (.if_icmp .ge 38, 3) := by decide +kernel
theorem dX11_isTreeHere_27 : decode cX11_isTreeHere 27 = .ok (.aload_n 0, 1) := by decide +kernel
theorem dX11_isTreeHere_28 : decode cX11_isTreeHere 28 = .ok (.iconst 0, 1) := by decide +kernel
theorem dX11_isTreeHere_29 : decode cX11_isTreeHere 29 = .ok (.bipush 9, 2) := by decide +kernel
theorem dX11_isTreeHere_31 : decode cX11_isTreeHere 31 = .ok (.invokevirtual 152, 3) := by decide +kernel
theorem dX11_isTreeHere_34 : decode cX11_isTreeHere 34 = .ok (.ifCond .ne 5, 3) := by decide +kernel
theorem dX11_isTreeHere_37 : decode cX11_isTreeHere 37 = .ok (.iconst 0, 1) := by decide +kernel
theorem dX11_isTreeHere_38 : decode cX11_isTreeHere 38 = .ok (.ireturn, 1) := by decide +kernel
theorem dX11_isTreeHere_39 : decode cX11_isTreeHere 39 = .ok (.aload_n 0, 1) := by decide +kernel
theorem dX11_isTreeHere_40 : decode cX11_isTreeHere 40 = .ok (.getfield 29, 3) := by decide +kernel
theorem dX11_isTreeHere_43 : decode cX11_isTreeHere 43 = .ok (.iconst 2, 1) := by decide +kernel
theorem dX11_isTreeHere_44 : decode cX11_isTreeHere 44 = .ok (.aload_n 0, 1) := by decide +kernel
theorem dX11_isTreeHere_45 : decode cX11_isTreeHere 45 = .ok (.getfield 209, 3) := by decide +kernel
theorem dX11_isTreeHere_48 : decode cX11_isTreeHere 48 = .ok (.imul, 1) := by decide +kernel
theorem dX11_isTreeHere_49 : decode cX11_isTreeHere 49 = .ok (.iload_n 2, 1) := by decide +kernel
theorem dX11_isTreeHere_50 : decode cX11_isTreeHere 50 = .ok (.iadd, 1) := by decide +kernel
theorem dX11_isTreeHere_51 : decode cX11_isTreeHere 51 = .ok (.aload_n 0, 1) := by decide +kernel
theorem dX11_isTreeHere_52 : decode cX11_isTreeHere 52 = .ok (.getfield 106, 3) := by decide +kernel
theorem dX11_isTreeHere_55 : decode cX11_isTreeHere 55 = .ok (.iastore, 1) := by decide +kernel
theorem dX11_isTreeHere_56 : decode cX11_isTreeHere 56 = .ok (.iinc 2 1, 3) := by decide +kernel
theorem dX11_isTreeHere_59 : decode cX11_isTreeHere 59 = .ok (.goto (-37), 3) := by decide +kernel
theorem dX11_isTreeHere_62 : decode cX11_isTreeHere 62 = .ok (.aload_n 0, 1) := by decide +kernel
theorem dX11_isTreeHere_63 : decode cX11_isTreeHere 63 = .ok (.dup, 1) := by decide +kernel
theorem dX11_isTreeHere_64 : decode cX11_isTreeHere 64 = .ok (.getfield 209, 3) := by decide +kernel
theorem dX11_isTreeHere_67 : decode cX11_isTreeHere 67 = .ok (.iconst 1, 1) := by decide +kernel
theorem dX11_isTreeHere_68 : decode cX11_isTreeHere 68 = .ok (.iadd, 1) := by decide +kernel
theorem dX11_isTreeHere_69 : decode cX11_isTreeHere 69 = .ok (.putfield 209, 3) := by decide +kernel
theorem dX11_isTreeHere_72 : decode cX11_isTreeHere 72 = .ok (.iconst 1, 1) := by decide +kernel
theorem dX11_isTreeHere_73 : decode cX11_isTreeHere 73 = .ok (.ireturn, 1) := by decide +kernel
theorem dX11_isWorthHere_0 : decode cX11_isWorthHere 0 = .ok (.aload_n 0, 1) := by decide +kernel
theorem dX11_isWorthHere_1 : decode cX11_isWorthHere 1 = .ok (.invokevirtual 96, 3) := by decide +kernel
theorem dX11_isWorthHere_4 : decode cX11_isWorthHere 4 = .ok (.aload_n 0, 1) := by decide +kernel
theorem dX11_isWorthHere_5 : decode cX11_isWorthHere 5 = .ok (.iconst 0, 1) := by decide +kernel
theorem dX11_isWorthHere_6 : decode cX11_isWorthHere 6 = .ok (.iconst 3, 1) := by decide +kernel
theorem dX11_isWorthHere_7 : decode cX11_isWorthHere 7 = .ok (.invokevirtual 152, 3) := by decide +kernel
theorem dX11_isWorthHere_10 : decode cX11_isWorthHere 10 = .ok (.ifCond .ne 5, 3) := by decide +kernel
theorem dX11_isWorthHere_13 : decode cX11_isWorthHere 13 = .ok (.iconst 0, 1) := by decide +kernel
theorem dX11_isWorthHere_14 : decode cX11_isWorthHere 14 = .ok (.ireturn, 1) := by decide +kernel
theorem dX11_isWorthHere_15 : decode cX11_isWorthHere 15 = .ok (.aload_n 0, 1) := by decide +kernel
theorem dX11_isWorthHere_16 : decode cX11_isWorthHere 16 = .ok (.getfield 106, 3) := by decide +kernel
theorem dX11_isWorthHere_19 : decode cX11_isWorthHere 19 = .ok (.istore_n 1, 1) := by decide +kernel
theorem dX11_isWorthHere_20 : decode cX11_isWorthHere 20 = .ok (.aload_n 0, 1) := by decide +kernel
theorem dX11_isWorthHere_21 : decode cX11_isWorthHere 21 = .ok (.iconst 0, 1) := by decide +kernel
theorem dX11_isWorthHere_22 : decode cX11_isWorthHere 22 = .ok (.bipush 7, 2) := by decide +kernel
theorem dX11_isWorthHere_24 : decode cX11_isWorthHere 24 = .ok (.invokevirtual 152, 3) := by decide +kernel
theorem dX11_isWorthHere_27 : decode cX11_isWorthHere 27 = .ok (.ifCond .ne 5, 3) := by decide +kernel
theorem dX11_isWorthHere_30 : decode cX11_isWorthHere 30 = .ok (.iconst 0, 1) := by decide +kernel
theorem dX11_isWorthHere_31 : decode cX11_isWorthHere 31 = .ok (.ireturn, 1) := by decide +kernel
theorem dX11_isWorthHere_32 : decode cX11_isWorthHere 32 = .ok (.aload_n 0, 1) := by decide +kernel
theorem dX11_isWorthHere_33 : decode cX11_isWorthHere 33 = .ok (.getfield 106, 3) := by decide +kernel
theorem dX11_isWorthHere_36 : decode cX11_isWorthHere 36 = .ok (.istore_n 2, 1) := by decide +kernel
theorem dX11_isWorthHere_37 : decode cX11_isWorthHere 37 = .ok (.aload_n 0, 1) := by decide +kernel
theorem dX11_isWorthHere_38 : decode cX11_isWorthHere 38 = .ok (.iconst 0, 1) := by decide +kernel
theorem dX11_isWorthHere_39 : decode cX11_isWorthHere 39 = .ok (.bipush 99, 2) := by decide +kernel
theorem dX11_isWorthHere_41 : decode cX11_isWorthHere 41 = .ok (.invokevirtual 152, 3) := by decide +kernel
theorem dX11_isWorthHere_44 : decode cX11_isWorthHere 44 = .ok (.ifCond .ne 5, 3) := by decide +kernel
theorem dX11_isWorthHere_47 : decode cX11_isWorthHere 47 = .ok (.iconst 0, 1) := by decide +kernel
theorem dX11_isWorthHere_48 : decode cX11_isWorthHere 48 = .ok (.ireturn, 1) := by decide +kernel
theorem dX11_isWorthHere_49 : decode cX11_isWorthHere 49 = .ok (.aload_n 0, 1) := by decide +kernel
theorem dX11_isWorthHere_50 : decode cX11_isWorthHere 50 = .ok (.getfield 32, 3) := by decide +kernel
theorem dX11_isWorthHere_53 : decode cX11_isWorthHere 53 = .ok (.bipush 8, 2) := by decide +kernel
theorem dX11_isWorthHere_55 : decode cX11_isWorthHere 55 = .ok (.iload_n 1, 1) := by decide +kernel
theorem dX11_isWorthHere_56 : decode cX11_isWorthHere 56 = .ok (.imul, 1) := by decide +kernel
theorem dX11_isWorthHere_57 : decode cX11_isWorthHere 57 = .ok (.iload_n 2, 1) := by decide +kernel
theorem dX11_isWorthHere_58 : decode cX11_isWorthHere 58 = .ok (.iadd, 1) := by decide +kernel
theorem dX11_isWorthHere_59 : decode cX11_isWorthHere 59 = .ok (.aload_n 0, 1) := by decide +kernel
theorem dX11_isWorthHere_60 : decode cX11_isWorthHere 60 = .ok (.getfield 106, 3) := by decide +kernel
theorem dX11_isWorthHere_63 : decode cX11_isWorthHere 63 = .ok (.iastore, 1) := by decide +kernel
theorem dX11_isWorthHere_64 : decode cX11_isWorthHere 64 = .ok (.iconst 1, 1) := by decide +kernel
theorem dX11_isWorthHere_65 : decode cX11_isWorthHere 65 = .ok (.ireturn, 1) := by decide +kernel
theorem dX11_clauseHere_0 : decode cX11_clauseHere 0 = .ok (.aload_n 0, 1) := by decide +kernel
theorem dX11_clauseHere_1 : decode cX11_clauseHere 1 = .ok (.invokevirtual 84, 3) := by decide +kernel
theorem dX11_clauseHere_4 : decode cX11_clauseHere 4 = .ok (.pop, 1) := by decide +kernel
theorem dX11_clauseHere_5 : decode cX11_clauseHere 5 = .ok (.aload_n 0, 1) := by decide +kernel
theorem dX11_clauseHere_6 : decode cX11_clauseHere 6 = .ok (.getfield 81, 3) := by decide +kernel
theorem dX11_clauseHere_9 : decode cX11_clauseHere 9 = .ok (.istore_n 1, 1) := by decide +kernel
theorem dX11_clauseHere_10 : decode cX11_clauseHere 10 = .ok (.aload_n 0, 1) := by decide +kernel
theorem dX11_clauseHere_11 : decode cX11_clauseHere 11 = .ok (.getfield 131, 3) := by decide +kernel
theorem dX11_clauseHere_14 : decode cX11_clauseHere 14 = .ok (.bipush 6, 2) := by decide +kernel
theorem dX11_clauseHere_16 : decode cX11_clauseHere 16 = .ok (.if_icmp .ne 7, 3) := by decide +kernel
theorem dX11_clauseHere_19 : decode cX11_clauseHere 19 = .ok (.iconst 1, 1) := by decide +kernel
theorem dX11_clauseHere_20 : decode cX11_clauseHere 20 = .ok (.goto 4, 3) := by decide +kernel
theorem dX11_clauseHere_23 : decode cX11_clauseHere 23 = .ok (.iconst 0, 1) := by decide +kernel
theorem dX11_clauseHere_24 : decode cX11_clauseHere 24 = .ok (.istore_n 2, 1) := by decide +kernel
theorem dX11_clauseHere_25 : decode cX11_clauseHere 25 = .ok (.iload_n 2, 1) := by decide +kernel
theorem dX11_clauseHere_26 : decode cX11_clauseHere 26 = .ok (.ifCond .eq 41, 3) := by decide +kernel
theorem dX11_clauseHere_29 : decode cX11_clauseHere 29 = .ok (.aload_n 0, 1) := by decide +kernel
theorem dX11_clauseHere_30 : decode cX11_clauseHere 30 = .ok (.ldc2_w 113, 3) := by decide +kernel
theorem dX11_clauseHere_33 : decode cX11_clauseHere 33 = .ok (.invokevirtual 92, 3) := by decide +kernel
theorem dX11_clauseHere_36 : decode cX11_clauseHere 36 = .ok (.ifCond .ne 23, 3) := by decide +kernel
theorem dX11_clauseHere_39 : decode cX11_clauseHere 39 = .ok (.aload_n 0, 1) := by decide +kernel
theorem dX11_clauseHere_40 : decode cX11_clauseHere 40 = .ok (.ldc2_w 212, 3) := by decide +kernel
theorem dX11_clauseHere_43 : decode cX11_clauseHere 43 = .ok (.invokevirtual 92, 3) := by decide +kernel
theorem dX11_clauseHere_46 : decode cX11_clauseHere 46 = .ok (.ifCond .ne 13, 3) := by decide +kernel
theorem dX11_clauseHere_49 : decode cX11_clauseHere 49 = .ok (.aload_n 0, 1) := by decide +kernel
theorem dX11_clauseHere_50 : decode cX11_clauseHere 50 = .ok (.ldc2_w 214, 3) := by decide +kernel
theorem dX11_clauseHere_53 : decode cX11_clauseHere 53 = .ok (.invokevirtual 92, 3) := by decide +kernel
theorem dX11_clauseHere_56 : decode cX11_clauseHere 56 = .ok (.ifCond .eq 7, 3) := by decide +kernel
theorem dX11_clauseHere_59 : decode cX11_clauseHere 59 = .ok (.iconst 1, 1) := by decide +kernel
theorem dX11_clauseHere_60 : decode cX11_clauseHere 60 = .ok (.goto 14, 3) := by decide +kernel
theorem dX11_clauseHere_63 : decode cX11_clauseHere 63 = .ok (.iconst 0, 1) := by decide +kernel
theorem dX11_clauseHere_64 : decode cX11_clauseHere 64 = .ok (.goto 10, 3) := by decide +kernel
theorem dX11_clauseHere_67 : decode cX11_clauseHere 67 = .ok (.aload_n 0, 1) := by decide +kernel
theorem dX11_clauseHere_68 : decode cX11_clauseHere 68 = .ok (.ldc2_w 216, 3) := by decide +kernel
theorem dX11_clauseHere_71 : decode cX11_clauseHere 71 = .ok (.invokevirtual 92, 3) := by decide +kernel
theorem dX11_clauseHere_74 : decode cX11_clauseHere 74 = .ok (.istore_n 3, 1) := by decide +kernel
theorem dX11_clauseHere_75 : decode cX11_clauseHere 75 = .ok (.iload_n 3, 1) := by decide +kernel
theorem dX11_clauseHere_76 : decode cX11_clauseHere 76 = .ok (.ifCond .ne 10, 3) := by decide +kernel
theorem dX11_clauseHere_79 : decode cX11_clauseHere 79 = .ok (.aload_n 0, 1) := by decide +kernel
theorem dX11_clauseHere_80 : decode cX11_clauseHere 80 = .ok (.iconst 0, 1) := by decide +kernel
theorem dX11_clauseHere_81 : decode cX11_clauseHere 81 = .ok (.iload_n 1, 1) := by decide +kernel
theorem dX11_clauseHere_82 : decode cX11_clauseHere 82 = .ok (.invokevirtual 102, 3) := by decide +kernel
theorem dX11_clauseHere_85 : decode cX11_clauseHere 85 = .ok (.ireturn, 1) := by decide +kernel
theorem dX11_clauseHere_86 : decode cX11_clauseHere 86 = .ok (.aload_n 0, 1) := by decide +kernel
theorem dX11_clauseHere_87 : decode cX11_clauseHere 87 = .ok (.getfield 218, 3) := by decide +kernel
theorem dX11_clauseHere_90 : decode cX11_clauseHere 90 = .ok (.iload_n 2, 1) := by decide +kernel
theorem dX11_clauseHere_91 : decode cX11_clauseHere 91 = .ok (.ifCond .eq 8, 3) := by decide +kernel
theorem dX11_clauseHere_94 : decode cX11_clauseHere 94 = .ok (.bipush 40, 2) := by decide +kernel
theorem dX11_clauseHere_96 : decode cX11_clauseHere 96 = .ok (.goto 5, 3) := by decide +kernel
theorem dX11_clauseHere_99 : decode cX11_clauseHere 99 = .ok (.bipush 12, 2) := by decide +kernel
theorem dX11_clauseHere_101 : decode cX11_clauseHere 101 = .ok (.if_icmp .ne 10, 3) := by decide +kernel
theorem dX11_clauseHere_104 : decode cX11_clauseHere 104 = .ok (.aload_n 0, 1) := by decide +kernel
theorem dX11_clauseHere_105 : decode cX11_clauseHere 105 = .ok (.iconst 4, 1) := by decide +kernel
theorem dX11_clauseHere_106 : decode cX11_clauseHere 106 = .ok (.iload_n 1, 1) := by decide +kernel
theorem dX11_clauseHere_107 : decode cX11_clauseHere 107 = .ok (.invokevirtual 102, 3) := by decide +kernel
theorem dX11_clauseHere_110 : decode cX11_clauseHere 110 = .ok (.ireturn, 1) := by decide +kernel
theorem dX11_clauseHere_111 : decode cX11_clauseHere 111 = .ok (.aload_n 0, 1) := by decide +kernel
theorem dX11_clauseHere_112 : decode cX11_clauseHere 112 = .ok (.dup, 1) := by decide +kernel
theorem dX11_clauseHere_113 : decode cX11_clauseHere 113 = .ok (.getfield 218, 3) := by decide +kernel
theorem dX11_clauseHere_116 : decode cX11_clauseHere 116 = .ok (.iconst 1, 1) := by decide +kernel
theorem dX11_clauseHere_117 : decode cX11_clauseHere 117 = .ok (.iadd, 1) := by decide +kernel
theorem dX11_clauseHere_118 : decode cX11_clauseHere 118 = .ok (.putfield 218, 3) := by decide +kernel
theorem dX11_clauseHere_121 : decode cX11_clauseHere 121 = .ok (.iload_n 2, 1) := by decide +kernel
theorem dX11_clauseHere_122 : decode cX11_clauseHere 122 = .ok (.ifCond .ne 8, 3) := by decide +kernel
theorem dX11_clauseHere_125 : decode cX11_clauseHere 125 = .ok (.aload_n 0, 1) := by decide +kernel
theorem dX11_clauseHere_126 : decode cX11_clauseHere 126 = .ok (.invokevirtual 221, 3) := by decide +kernel
theorem dX11_clauseHere_129 : decode cX11_clauseHere 129 = .ok (.ireturn, 1) := by decide +kernel
theorem dX11_clauseHere_130 : decode cX11_clauseHere 130 = .ok (.aload_n 0, 1) := by decide +kernel
theorem dX11_clauseHere_131 : decode cX11_clauseHere 131 = .ok (.ldc2_w 113, 3) := by decide +kernel
theorem dX11_clauseHere_134 : decode cX11_clauseHere 134 = .ok (.invokevirtual 92, 3) := by decide +kernel
theorem dX11_clauseHere_137 : decode cX11_clauseHere 137 = .ok (.ifCond .eq 11, 3) := by decide +kernel
theorem dX11_clauseHere_140 : decode cX11_clauseHere 140 = .ok (.aload_n 0, 1) := by decide +kernel
theorem dX11_clauseHere_141 : decode cX11_clauseHere 141 = .ok (.iload_n 1, 1) := by decide +kernel
theorem dX11_clauseHere_142 : decode cX11_clauseHere 142 = .ok (.invokevirtual 224, 3) := by decide +kernel
theorem dX11_clauseHere_145 : decode cX11_clauseHere 145 = .ok (.goto 25, 3) := by decide +kernel
theorem dX11_clauseHere_148 : decode cX11_clauseHere 148 = .ok (.aload_n 0, 1) := by decide +kernel
theorem dX11_clauseHere_149 : decode cX11_clauseHere 149 = .ok (.ldc2_w 212, 3) := by decide +kernel
theorem dX11_clauseHere_152 : decode cX11_clauseHere 152 = .ok (.invokevirtual 92, 3) := by decide +kernel
theorem dX11_clauseHere_155 : decode cX11_clauseHere 155 = .ok (.ifCond .eq 11, 3) := by decide +kernel
theorem dX11_clauseHere_158 : decode cX11_clauseHere 158 = .ok (.aload_n 0, 1) := by decide +kernel
theorem dX11_clauseHere_159 : decode cX11_clauseHere 159 = .ok (.iload_n 1, 1) := by decide +kernel
theorem dX11_clauseHere_160 : decode cX11_clauseHere 160 = .ok (.invokevirtual 227, 3) := by decide +kernel
theorem dX11_clauseHere_163 : decode cX11_clauseHere 163 = .ok (.goto 7, 3) := by decide +kernel
theorem dX11_clauseHere_166 : decode cX11_clauseHere 166 = .ok (.aload_n 0, 1) := by decide +kernel
theorem dX11_clauseHere_167 : decode cX11_clauseHere 167 = .ok (.invokevirtual 230, 3) := by decide +kernel
theorem dX11_clauseHere_170 : decode cX11_clauseHere 170 = .ok (.ireturn, 1) := by decide +kernel
theorem dX11_readsAll_0 : decode cX11_readsAll 0 = .ok (.aload_n 0, 1) := by decide +kernel
theorem dX11_readsAll_1 : decode cX11_readsAll 1 = .ok (.getfield 17, 3) := by decide +kernel
theorem dX11_readsAll_4 : decode cX11_readsAll 4 = .ok (.aload_n 0, 1) := by decide +kernel
theorem dX11_readsAll_5 : decode cX11_readsAll 5 = .ok (.getfield 131, 3) := by decide +kernel
theorem dX11_readsAll_8 : decode cX11_readsAll 8 = .ok (.iconst 0, 1) := by decide +kernel
theorem dX11_readsAll_9 : decode cX11_readsAll 9 = .ok (.iastore, 1) := by decide +kernel
theorem dX11_readsAll_10 : decode cX11_readsAll 10 = .ok (.aload_n 0, 1) := by decide +kernel
theorem dX11_readsAll_11 : decode cX11_readsAll 11 = .ok (.iconst 0, 1) := by decide +kernel
theorem dX11_readsAll_12 : decode cX11_readsAll 12 = .ok (.putfield 218, 3) := by decide +kernel
theorem dX11_readsAll_15 : decode cX11_readsAll 15 = .ok (.aload_n 0, 1) := by decide +kernel
theorem dX11_readsAll_16 : decode cX11_readsAll 16 = .ok (.iconst 0, 1) := by decide +kernel
theorem dX11_readsAll_17 : decode cX11_readsAll 17 = .ok (.putfield 81, 3) := by decide +kernel
theorem dX11_readsAll_20 : decode cX11_readsAll 20 = .ok (.aload_n 0, 1) := by decide +kernel
theorem dX11_readsAll_21 : decode cX11_readsAll 21 = .ok (.iconst 0, 1) := by decide +kernel
theorem dX11_readsAll_22 : decode cX11_readsAll 22 = .ok (.putfield 78, 3) := by decide +kernel
theorem dX11_readsAll_25 : decode cX11_readsAll 25 = .ok (.aload_n 0, 1) := by decide +kernel
theorem dX11_readsAll_26 : decode cX11_readsAll 26 = .ok (.iconst 0, 1) := by decide +kernel
theorem dX11_readsAll_27 : decode cX11_readsAll 27 = .ok (.putfield 134, 3) := by decide +kernel
theorem dX11_readsAll_30 : decode cX11_readsAll 30 = .ok (.aload_n 0, 1) := by decide +kernel
theorem dX11_readsAll_31 : decode cX11_readsAll 31 = .ok (.invokevirtual 233, 3) := by decide +kernel
theorem dX11_readsAll_34 : decode cX11_readsAll 34 = .ok (.istore_n 1, 1) := by decide +kernel
theorem dX11_readsAll_35 : decode cX11_readsAll 35 = .ok (.iload_n 1, 1) := by decide +kernel
theorem dX11_readsAll_36 : decode cX11_readsAll 36 = .ok (.ifCond .eq 30, 3) := by decide +kernel
theorem dX11_readsAll_39 : decode cX11_readsAll 39 = .ok (.aload_n 0, 1) := by decide +kernel
theorem dX11_readsAll_40 : decode cX11_readsAll 40 = .ok (.invokevirtual 84, 3) := by decide +kernel
theorem dX11_readsAll_43 : decode cX11_readsAll 43 = .ok (.bipush 59, 2) := by decide +kernel
theorem dX11_readsAll_45 : decode cX11_readsAll 45 = .ok (.if_icmp .ne 21, 3) := by decide +kernel
theorem dX11_readsAll_48 : decode cX11_readsAll 48 = .ok (.aload_n 0, 1) := by decide +kernel
theorem dX11_readsAll_49 : decode cX11_readsAll 49 = .ok (.dup, 1) := by decide +kernel
theorem dX11_readsAll_50 : decode cX11_readsAll 50 = .ok (.getfield 81, 3) := by decide +kernel
theorem dX11_readsAll_53 : decode cX11_readsAll 53 = .ok (.iconst 1, 1) := by decide +kernel
theorem dX11_readsAll_54 : decode cX11_readsAll 54 = .ok (.iadd, 1) := by decide +kernel
theorem dX11_readsAll_55 : decode cX11_readsAll 55 = .ok (.putfield 81, 3) := by decide +kernel
theorem dX11_readsAll_58 : decode cX11_readsAll 58 = .ok (.aload_n 0, 1) := by decide +kernel
theorem dX11_readsAll_59 : decode cX11_readsAll 59 = .ok (.invokevirtual 233, 3) := by decide +kernel
theorem dX11_readsAll_62 : decode cX11_readsAll 62 = .ok (.istore_n 1, 1) := by decide +kernel
theorem dX11_readsAll_63 : decode cX11_readsAll 63 = .ok (.goto (-28), 3) := by decide +kernel
theorem dX11_readsAll_66 : decode cX11_readsAll 66 = .ok (.iload_n 1, 1) := by decide +kernel
theorem dX11_readsAll_67 : decode cX11_readsAll 67 = .ok (.ifCond .eq 21, 3) := by decide +kernel
theorem dX11_readsAll_70 : decode cX11_readsAll 70 = .ok (.aload_n 0, 1) := by decide +kernel
theorem dX11_readsAll_71 : decode cX11_readsAll 71 = .ok (.invokevirtual 84, 3) := by decide +kernel
theorem dX11_readsAll_74 : decode cX11_readsAll 74 = .ok (.iconst (-1), 1) := by decide +kernel
theorem dX11_readsAll_75 : decode cX11_readsAll 75 = .ok (.if_icmp .eq 13, 3) := by decide +kernel
theorem dX11_readsAll_78 : decode cX11_readsAll 78 = .ok (.aload_n 0, 1) := by decide +kernel
theorem dX11_readsAll_79 : decode cX11_readsAll 79 = .ok (.iconst 0, 1) := by decide +kernel
theorem dX11_readsAll_80 : decode cX11_readsAll 80 = .ok (.aload_n 0, 1) := by decide +kernel
theorem dX11_readsAll_81 : decode cX11_readsAll 81 = .ok (.getfield 81, 3) := by decide +kernel
theorem dX11_readsAll_84 : decode cX11_readsAll 84 = .ok (.invokevirtual 102, 3) := by decide +kernel
theorem dX11_readsAll_87 : decode cX11_readsAll 87 = .ok (.istore_n 1, 1) := by decide +kernel
theorem dX11_readsAll_88 : decode cX11_readsAll 88 = .ok (.iload_n 1, 1) := by decide +kernel
theorem dX11_readsAll_89 : decode cX11_readsAll 89 = .ok (.ifCond .eq 29, 3) := by decide +kernel
theorem dX11_readsAll_92 : decode cX11_readsAll 92 = .ok (.aload_n 0, 1) := by decide +kernel
theorem dX11_readsAll_93 : decode cX11_readsAll 93 = .ok (.getfield 131, 3) := by decide +kernel
theorem dX11_readsAll_96 : decode cX11_readsAll 96 = .ok (.bipush 6, 2) := by decide +kernel
theorem dX11_readsAll_98 : decode cX11_readsAll 98 = .ok (.if_icmp .ne 20, 3) := by decide +kernel
theorem dX11_readsAll_101 : decode cX11_readsAll 101 = .ok (.aload_n 0, 1) := by decide +kernel
theorem dX11_readsAll_102 : decode cX11_readsAll 102 = .ok (.getfield 203, 3) := by decide +kernel
theorem dX11_readsAll_105 : decode cX11_readsAll 105 = .ok (.ifCond .ne 13, 3) := by decide +kernel
theorem dX11_readsAll_108 : decode cX11_readsAll 108 = .ok (.aload_n 0, 1) := by decide +kernel
theorem dX11_readsAll_109 : decode cX11_readsAll 109 = .ok (.iconst 0, 1) := by decide +kernel
theorem dX11_readsAll_110 : decode cX11_readsAll 110 = .ok (.aload_n 0, 1) := by decide +kernel
theorem dX11_readsAll_111 : decode cX11_readsAll 111 = .ok (.getfield 81, 3) := by decide +kernel
theorem dX11_readsAll_114 : decode cX11_readsAll 114 = .ok (.invokevirtual 102, 3) := by decide +kernel
theorem dX11_readsAll_117 : decode cX11_readsAll 117 = .ok (.pop, 1) := by decide +kernel
theorem dX11_readsAll_118 : decode cX11_readsAll 118 = .ok (.aload_n 0, 1) := by decide +kernel
theorem dX11_readsAll_119 : decode cX11_readsAll 119 = .ok (.iconst 0, 1) := by decide +kernel
theorem dX11_readsAll_120 : decode cX11_readsAll 120 = .ok (.putfield 70, 3) := by decide +kernel
theorem dX11_readsAll_123 : decode cX11_readsAll 123 = .ok (.aload_n 0, 1) := by decide +kernel
theorem dX11_readsAll_124 : decode cX11_readsAll 124 = .ok (.getfield 78, 3) := by decide +kernel
theorem dX11_readsAll_127 : decode cX11_readsAll 127 = .ok (.ifCond .ne 7, 3) := by decide +kernel
theorem dX11_readsAll_130 : decode cX11_readsAll 130 = .ok (.iconst 1, 1) := by decide +kernel
theorem dX11_readsAll_131 : decode cX11_readsAll 131 = .ok (.goto 4, 3) := by decide +kernel
theorem dX11_readsAll_134 : decode cX11_readsAll 134 = .ok (.iconst 0, 1) := by decide +kernel
theorem dX11_readsAll_135 : decode cX11_readsAll 135 = .ok (.ireturn, 1) := by decide +kernel
theorem dX11_law_0 : decode cX11_law 0 = .ok (.aload_n 0, 1) := by decide +kernel
theorem dX11_law_1 : decode cX11_law 1 = .ok (.getfield 236, 3) := by decide +kernel
theorem dX11_law_4 : decode cX11_law 4 = .ok (.bipush 6, 2) := by decide +kernel
theorem dX11_law_6 : decode cX11_law 6 = .ok (.if_icmp .ne 5, 3) := by decide +kernel
theorem dX11_law_9 : decode cX11_law 9 = .ok (.iconst (-1), 1) := by decide +kernel
theorem dX11_law_10 : decode cX11_law 10 = .ok (.ireturn, 1) := by decide +kernel
theorem dX11_law_11 : decode cX11_law 11 = .ok (.aload_n 0, 1) := by decide +kernel
theorem dX11_law_12 : decode cX11_law 12 = .ok (.aload_n 0, 1) := by decide +kernel
theorem dX11_law_13 : decode cX11_law 13 = .ok (.getfield 236, 3) := by decide +kernel
theorem dX11_law_16 : decode cX11_law 16 = .ok (.putfield 131, 3) := by decide +kernel
theorem dX11_law_19 : decode cX11_law 19 = .ok (.aload_n 0, 1) := by decide +kernel
theorem dX11_law_20 : decode cX11_law 20 = .ok (.getfield 23, 3) := by decide +kernel
theorem dX11_law_23 : decode cX11_law 23 = .ok (.aload_n 0, 1) := by decide +kernel
theorem dX11_law_24 : decode cX11_law 24 = .ok (.getfield 131, 3) := by decide +kernel
theorem dX11_law_27 : decode cX11_law 27 = .ok (.iconst 0, 1) := by decide +kernel
theorem dX11_law_28 : decode cX11_law 28 = .ok (.iastore, 1) := by decide +kernel
theorem dX11_law_29 : decode cX11_law 29 = .ok (.aload_n 0, 1) := by decide +kernel
theorem dX11_law_30 : decode cX11_law 30 = .ok (.invokevirtual 239, 3) := by decide +kernel
theorem dX11_law_33 : decode cX11_law 33 = .ok (.ifCond .ne 11, 3) := by decide +kernel
theorem dX11_law_36 : decode cX11_law 36 = .ok (.bipush (-2), 2) := by decide +kernel
theorem dX11_law_38 : decode cX11_law 38 = .ok (.aload_n 0, 1) := by decide +kernel
theorem dX11_law_39 : decode cX11_law 39 = .ok (.getfield 78, 3) := by decide +kernel
theorem dX11_law_42 : decode cX11_law 42 = .ok (.isub, 1) := by decide +kernel
theorem dX11_law_43 : decode cX11_law 43 = .ok (.ireturn, 1) := by decide +kernel
theorem dX11_law_44 : decode cX11_law 44 = .ok (.aload_n 0, 1) := by decide +kernel
theorem dX11_law_45 : decode cX11_law 45 = .ok (.dup, 1) := by decide +kernel
theorem dX11_law_46 : decode cX11_law 46 = .ok (.getfield 236, 3) := by decide +kernel
theorem dX11_law_49 : decode cX11_law 49 = .ok (.iconst 1, 1) := by decide +kernel
theorem dX11_law_50 : decode cX11_law 50 = .ok (.iadd, 1) := by decide +kernel
theorem dX11_law_51 : decode cX11_law 51 = .ok (.putfield 236, 3) := by decide +kernel
theorem dX11_law_54 : decode cX11_law 54 = .ok (.aload_n 0, 1) := by decide +kernel
theorem dX11_law_55 : decode cX11_law 55 = .ok (.getfield 236, 3) := by decide +kernel
theorem dX11_law_58 : decode cX11_law 58 = .ok (.iconst 1, 1) := by decide +kernel
theorem dX11_law_59 : decode cX11_law 59 = .ok (.isub, 1) := by decide +kernel
theorem dX11_law_60 : decode cX11_law 60 = .ok (.ireturn, 1) := by decide +kernel
theorem dX11_valley_0 : decode cX11_valley 0 = .ok (.aload_n 0, 1) := by decide +kernel
theorem dX11_valley_1 : decode cX11_valley 1 = .ok (.bipush 6, 2) := by decide +kernel
theorem dX11_valley_3 : decode cX11_valley 3 = .ok (.putfield 131, 3) := by decide +kernel
theorem dX11_valley_6 : decode cX11_valley 6 = .ok (.aload_n 0, 1) := by decide +kernel
theorem dX11_valley_7 : decode cX11_valley 7 = .ok (.iconst 0, 1) := by decide +kernel
theorem dX11_valley_8 : decode cX11_valley 8 = .ok (.putfield 203, 3) := by decide +kernel
theorem dX11_valley_11 : decode cX11_valley 11 = .ok (.aload_n 0, 1) := by decide +kernel
theorem dX11_valley_12 : decode cX11_valley 12 = .ok (.iconst 0, 1) := by decide +kernel
theorem dX11_valley_13 : decode cX11_valley 13 = .ok (.putfield 209, 3) := by decide +kernel
theorem dX11_valley_16 : decode cX11_valley 16 = .ok (.iconst 0, 1) := by decide +kernel
theorem dX11_valley_17 : decode cX11_valley 17 = .ok (.istore_n 1, 1) := by decide +kernel
theorem dX11_valley_18 : decode cX11_valley 18 = .ok (.iload_n 1, 1) := by decide +kernel
theorem dX11_valley_19 : decode cX11_valley 19 = .ok (.bipush 32, 2) := by decide +kernel
theorem dX11_valley_21 : decode cX11_valley 21 = .ok (.if_icmp .ge 16, 3) := by decide +kernel
theorem dX11_valley_24 : decode cX11_valley 24 = .ok (.aload_n 0, 1) := by decide +kernel
theorem dX11_valley_25 : decode cX11_valley 25 = .ok (.getfield 32, 3) := by decide +kernel
theorem dX11_valley_28 : decode cX11_valley 28 = .ok (.iload_n 1, 1) := by decide +kernel
theorem dX11_valley_29 : decode cX11_valley 29 = .ok (.iconst 0, 1) := by decide +kernel
theorem dX11_valley_30 : decode cX11_valley 30 = .ok (.iastore, 1) := by decide +kernel
theorem dX11_valley_31 : decode cX11_valley 31 = .ok (.iinc 1 1, 3) := by decide +kernel
theorem dX11_valley_34 : decode cX11_valley 34 = .ok (.goto (-16), 3) := by decide +kernel
theorem dX11_valley_37 : decode cX11_valley 37 = .ok (.aload_n 0, 1) := by decide +kernel
theorem dX11_valley_38 : decode cX11_valley 38 = .ok (.invokevirtual 239, 3) := by decide +kernel
theorem dX11_valley_41 : decode cX11_valley 41 = .ok (.ifCond .ne 11, 3) := by decide +kernel
theorem dX11_valley_44 : decode cX11_valley 44 = .ok (.bipush (-2), 2) := by decide +kernel
theorem dX11_valley_46 : decode cX11_valley 46 = .ok (.aload_n 0, 1) := by decide +kernel
theorem dX11_valley_47 : decode cX11_valley 47 = .ok (.getfield 78, 3) := by decide +kernel
theorem dX11_valley_50 : decode cX11_valley 50 = .ok (.isub, 1) := by decide +kernel
theorem dX11_valley_51 : decode cX11_valley 51 = .ok (.ireturn, 1) := by decide +kernel
theorem dX11_valley_52 : decode cX11_valley 52 = .ok (.aload_n 0, 1) := by decide +kernel
theorem dX11_valley_53 : decode cX11_valley 53 = .ok (.getfield 45, 3) := by decide +kernel
theorem dX11_valley_56 : decode cX11_valley 56 = .ok (.iconst 0, 1) := by decide +kernel
theorem dX11_valley_57 : decode cX11_valley 57 = .ok (.aload_n 0, 1) := by decide +kernel
theorem dX11_valley_58 : decode cX11_valley 58 = .ok (.getfield 203, 3) := by decide +kernel
theorem dX11_valley_61 : decode cX11_valley 61 = .ok (.iastore, 1) := by decide +kernel
theorem dX11_valley_62 : decode cX11_valley 62 = .ok (.aload_n 0, 1) := by decide +kernel
theorem dX11_valley_63 : decode cX11_valley 63 = .ok (.getfield 45, 3) := by decide +kernel
theorem dX11_valley_66 : decode cX11_valley 66 = .ok (.iconst 1, 1) := by decide +kernel
theorem dX11_valley_67 : decode cX11_valley 67 = .ok (.aload_n 0, 1) := by decide +kernel
theorem dX11_valley_68 : decode cX11_valley 68 = .ok (.getfield 209, 3) := by decide +kernel
theorem dX11_valley_71 : decode cX11_valley 71 = .ok (.iastore, 1) := by decide +kernel
theorem dX11_valley_72 : decode cX11_valley 72 = .ok (.iconst 0, 1) := by decide +kernel
theorem dX11_valley_73 : decode cX11_valley 73 = .ok (.istore_n 1, 1) := by decide +kernel
theorem dX11_valley_74 : decode cX11_valley 74 = .ok (.iload_n 1, 1) := by decide +kernel
theorem dX11_valley_75 : decode cX11_valley 75 = .ok (.aload_n 0, 1) := by decide +kernel
theorem dX11_valley_76 : decode cX11_valley 76 = .ok (.getfield 203, 3) := by decide +kernel
theorem dX11_valley_79 : decode cX11_valley 79 = .ok (.if_icmp .ge 72, 3) := by decide +kernel
theorem dX11_valley_82 : decode cX11_valley 82 = .ok (.iconst 0, 1) := by decide +kernel
theorem dX11_valley_83 : decode cX11_valley 83 = .ok (.istore_n 2, 1) := by decide +kernel
theorem dX11_valley_84 : decode cX11_valley 84 = .ok (.iload_n 2, 1) := by decide +kernel
theorem dX11_valley_85 : decode cX11_valley 85 = .ok (.bipush 6, 2) := by decide +kernel
theorem dX11_valley_87 : decode cX11_valley 87 = .ok (.if_icmp .ge 33, 3) := by decide +kernel
theorem dX11_valley_90 : decode cX11_valley 90 = .ok (.aload_n 0, 1) := by decide +kernel
theorem dX11_valley_91 : decode cX11_valley 91 = .ok (.getfield 45, 3) := by decide +kernel
theorem dX11_valley_94 : decode cX11_valley 94 = .ok (.iconst 4, 1) := by decide +kernel
theorem dX11_valley_95 : decode cX11_valley 95 = .ok (.bipush 7, 2) := by decide +kernel
theorem dX11_valley_97 : decode cX11_valley 97 = .ok (.iload_n 1, 1) := by decide +kernel
theorem dX11_valley_98 : decode cX11_valley 98 = .ok (.imul, 1) := by decide +kernel
theorem dX11_valley_99 : decode cX11_valley 99 = .ok (.iadd, 1) := by decide +kernel
theorem dX11_valley_100 : decode cX11_valley 100 = .ok (.iload_n 2, 1) := by decide +kernel
theorem dX11_valley_101 : decode cX11_valley 101 = .ok (.iadd, 1) := by decide +kernel
theorem dX11_valley_102 : decode cX11_valley 102 = .ok (.aload_n 0, 1) := by decide +kernel
theorem dX11_valley_103 : decode cX11_valley 103 = .ok (.getfield 26, 3) := by decide +kernel
theorem dX11_valley_106 : decode cX11_valley 106 = .ok (.bipush 6, 2) := by decide +kernel
theorem dX11_valley_108 : decode cX11_valley 108 = .ok (.iload_n 1, 1) := by decide +kernel
theorem dX11_valley_109 : decode cX11_valley 109 = .ok (.imul, 1) := by decide +kernel
theorem dX11_valley_110 : decode cX11_valley 110 = .ok (.iload_n 2, 1) := by decide +kernel
theorem dX11_valley_111 : decode cX11_valley 111 = .ok (.iadd, 1) := by decide +kernel
theorem dX11_valley_112 : decode cX11_valley 112 = .ok (.iaload, 1) := by decide +kernel
theorem dX11_valley_113 : decode cX11_valley 113 = .ok (.iastore, 1) := by decide +kernel
theorem dX11_valley_114 : decode cX11_valley 114 = .ok (.iinc 2 1, 3) := by decide +kernel
theorem dX11_valley_117 : decode cX11_valley 117 = .ok (.goto (-33), 3) := by decide +kernel
theorem dX11_valley_120 : decode cX11_valley 120 = .ok (.aload_n 0, 1) := by decide +kernel
theorem dX11_valley_121 : decode cX11_valley 121 = .ok (.getfield 45, 3) := by decide +kernel
theorem dX11_valley_124 : decode cX11_valley 124 = .ok (.iconst 4, 1) := by decide +kernel
theorem dX11_valley_125 : decode cX11_valley 125 = .ok (.bipush 7, 2) := by decide +kernel
theorem dX11_valley_127 : decode cX11_valley 127 = .ok (.iload_n 1, 1) := by decide +kernel
theorem dX11_valley_128 : decode cX11_valley 128 = .ok (.imul, 1) := by decide +kernel
theorem dX11_valley_129 : decode cX11_valley 129 = .ok (.iadd, 1) := by decide +kernel
theorem dX11_valley_130 : decode cX11_valley 130 = .ok (.bipush 6, 2) := by decide +kernel
theorem dX11_valley_132 : decode cX11_valley 132 = .ok (.iadd, 1) := by decide +kernel
theorem dX11_valley_133 : decode cX11_valley 133 = .ok (.aload_n 0, 1) := by decide +kernel
theorem dX11_valley_134 : decode cX11_valley 134 = .ok (.getfield 26, 3) := by decide +kernel
theorem dX11_valley_137 : decode cX11_valley 137 = .ok (.bipush 6, 2) := by decide +kernel
theorem dX11_valley_139 : decode cX11_valley 139 = .ok (.iload_n 1, 1) := by decide +kernel
theorem dX11_valley_140 : decode cX11_valley 140 = .ok (.imul, 1) := by decide +kernel
theorem dX11_valley_141 : decode cX11_valley 141 = .ok (.iconst 5, 1) := by decide +kernel
theorem dX11_valley_142 : decode cX11_valley 142 = .ok (.iadd, 1) := by decide +kernel
theorem dX11_valley_143 : decode cX11_valley 143 = .ok (.iaload, 1) := by decide +kernel
theorem dX11_valley_144 : decode cX11_valley 144 = .ok (.iastore, 1) := by decide +kernel
theorem dX11_valley_145 : decode cX11_valley 145 = .ok (.iinc 1 1, 3) := by decide +kernel
theorem dX11_valley_148 : decode cX11_valley 148 = .ok (.goto (-74), 3) := by decide +kernel
theorem dX11_valley_151 : decode cX11_valley 151 = .ok (.iconst 0, 1) := by decide +kernel
theorem dX11_valley_152 : decode cX11_valley 152 = .ok (.istore_n 1, 1) := by decide +kernel
theorem dX11_valley_153 : decode cX11_valley 153 = .ok (.iload_n 1, 1) := by decide +kernel
theorem dX11_valley_154 : decode cX11_valley 154 = .ok (.aload_n 0, 1) := by decide +kernel
theorem dX11_valley_155 : decode cX11_valley 155 = .ok (.getfield 209, 3) := by decide +kernel
theorem dX11_valley_158 : decode cX11_valley 158 = .ok (.if_icmp .ge 59, 3) := by decide +kernel
theorem dX11_valley_161 : decode cX11_valley 161 = .ok (.iconst 0, 1) := by decide +kernel
theorem dX11_valley_162 : decode cX11_valley 162 = .ok (.istore_n 2, 1) := by decide +kernel
theorem dX11_valley_163 : decode cX11_valley 163 = .ok (.iload_n 2, 1) := by decide +kernel
theorem dX11_valley_164 : decode cX11_valley 164 = .ok (.iconst 2, 1) := by decide +kernel
theorem dX11_valley_165 : decode cX11_valley 165 = .ok (.if_icmp .ge 32, 3) := by decide +kernel
theorem dX11_valley_168 : decode cX11_valley 168 = .ok (.aload_n 0, 1) := by decide +kernel
theorem dX11_valley_169 : decode cX11_valley 169 = .ok (.getfield 45, 3) := by decide +kernel
theorem dX11_valley_172 : decode cX11_valley 172 = .ok (.bipush 88, 2) := by decide +kernel
theorem dX11_valley_174 : decode cX11_valley 174 = .ok (.iconst 3, 1) := by decide +kernel
theorem dX11_valley_175 : decode cX11_valley 175 = .ok (.iload_n 1, 1) := by decide +kernel
theorem dX11_valley_176 : decode cX11_valley 176 = .ok (.imul, 1) := by decide +kernel
theorem dX11_valley_177 : decode cX11_valley 177 = .ok (.iadd, 1) := by decide +kernel
theorem dX11_valley_178 : decode cX11_valley 178 = .ok (.iload_n 2, 1) := by decide +kernel
theorem dX11_valley_179 : decode cX11_valley 179 = .ok (.iadd, 1) := by decide +kernel
theorem dX11_valley_180 : decode cX11_valley 180 = .ok (.aload_n 0, 1) := by decide +kernel
theorem dX11_valley_181 : decode cX11_valley 181 = .ok (.getfield 29, 3) := by decide +kernel
theorem dX11_valley_184 : decode cX11_valley 184 = .ok (.iconst 2, 1) := by decide +kernel
theorem dX11_valley_185 : decode cX11_valley 185 = .ok (.iload_n 1, 1) := by decide +kernel
theorem dX11_valley_186 : decode cX11_valley 186 = .ok (.imul, 1) := by decide +kernel
theorem dX11_valley_187 : decode cX11_valley 187 = .ok (.iload_n 2, 1) := by decide +kernel
theorem dX11_valley_188 : decode cX11_valley 188 = .ok (.iadd, 1) := by decide +kernel
theorem dX11_valley_189 : decode cX11_valley 189 = .ok (.iaload, 1) := by decide +kernel
theorem dX11_valley_190 : decode cX11_valley 190 = .ok (.iastore, 1) := by decide +kernel
theorem dX11_valley_191 : decode cX11_valley 191 = .ok (.iinc 2 1, 3) := by decide +kernel
theorem dX11_valley_194 : decode cX11_valley 194 = .ok (.goto (-31), 3) := by decide +kernel
theorem dX11_valley_197 : decode cX11_valley 197 = .ok (.aload_n 0, 1) := by decide +kernel
theorem dX11_valley_198 : decode cX11_valley 198 = .ok (.getfield 45, 3) := by decide +kernel
theorem dX11_valley_201 : decode cX11_valley 201 = .ok (.bipush 88, 2) := by decide +kernel
theorem dX11_valley_203 : decode cX11_valley 203 = .ok (.iconst 3, 1) := by decide +kernel
theorem dX11_valley_204 : decode cX11_valley 204 = .ok (.iload_n 1, 1) := by decide +kernel
theorem dX11_valley_205 : decode cX11_valley 205 = .ok (.imul, 1) := by decide +kernel
theorem dX11_valley_206 : decode cX11_valley 206 = .ok (.iadd, 1) := by decide +kernel
theorem dX11_valley_207 : decode cX11_valley 207 = .ok (.iconst 2, 1) := by decide +kernel
theorem dX11_valley_208 : decode cX11_valley 208 = .ok (.iadd, 1) := by decide +kernel
theorem dX11_valley_209 : decode cX11_valley 209 = .ok (.iconst 0, 1) := by decide +kernel
theorem dX11_valley_210 : decode cX11_valley 210 = .ok (.iastore, 1) := by decide +kernel
theorem dX11_valley_211 : decode cX11_valley 211 = .ok (.iinc 1 1, 3) := by decide +kernel
theorem dX11_valley_214 : decode cX11_valley 214 = .ok (.goto (-61), 3) := by decide +kernel
theorem dX11_valley_217 : decode cX11_valley 217 = .ok (.iconst 0, 1) := by decide +kernel
theorem dX11_valley_218 : decode cX11_valley 218 = .ok (.istore_n 1, 1) := by decide +kernel
theorem dX11_valley_219 : decode cX11_valley 219 = .ok (.iload_n 1, 1) := by decide +kernel
theorem dX11_valley_220 : decode cX11_valley 220 = .ok (.bipush 32, 2) := by decide +kernel
theorem dX11_valley_222 : decode cX11_valley 222 = .ok (.if_icmp .ge 24, 3) := by decide +kernel
theorem dX11_valley_225 : decode cX11_valley 225 = .ok (.aload_n 0, 1) := by decide +kernel
theorem dX11_valley_226 : decode cX11_valley 226 = .ok (.getfield 45, 3) := by decide +kernel
theorem dX11_valley_229 : decode cX11_valley 229 = .ok (.bipush 124, 2) := by decide +kernel
theorem dX11_valley_231 : decode cX11_valley 231 = .ok (.iload_n 1, 1) := by decide +kernel
theorem dX11_valley_232 : decode cX11_valley 232 = .ok (.iadd, 1) := by decide +kernel
theorem dX11_valley_233 : decode cX11_valley 233 = .ok (.aload_n 0, 1) := by decide +kernel
theorem dX11_valley_234 : decode cX11_valley 234 = .ok (.getfield 32, 3) := by decide +kernel
theorem dX11_valley_237 : decode cX11_valley 237 = .ok (.iload_n 1, 1) := by decide +kernel
theorem dX11_valley_238 : decode cX11_valley 238 = .ok (.iaload, 1) := by decide +kernel
theorem dX11_valley_239 : decode cX11_valley 239 = .ok (.iastore, 1) := by decide +kernel
theorem dX11_valley_240 : decode cX11_valley 240 = .ok (.iinc 1 1, 3) := by decide +kernel
theorem dX11_valley_243 : decode cX11_valley 243 = .ok (.goto (-24), 3) := by decide +kernel
theorem dX11_valley_246 : decode cX11_valley 246 = .ok (.aload_n 0, 1) := by decide +kernel
theorem dX11_valley_247 : decode cX11_valley 247 = .ok (.getfield 203, 3) := by decide +kernel
theorem dX11_valley_250 : decode cX11_valley 250 = .ok (.ireturn, 1) := by decide +kernel
theorem dX11_isLaw_0 : decode cX11_isLaw 0 = .ok (.iload_n 1, 1) := by decide +kernel
theorem dX11_isLaw_1 : decode cX11_isLaw 1 = .ok (.ifCond .lt 15, 3) := by decide +kernel
theorem dX11_isLaw_4 : decode cX11_isLaw 4 = .ok (.iload_n 1, 1) := by decide +kernel
theorem dX11_isLaw_5 : decode cX11_isLaw 5 = .ok (.aload_n 0, 1) := by decide +kernel
theorem dX11_isLaw_6 : decode cX11_isLaw 6 = .ok (.getfield 236, 3) := by decide +kernel
theorem dX11_isLaw_9 : decode cX11_isLaw 9 = .ok (.if_icmp .ge 7, 3) := by decide +kernel
theorem dX11_isLaw_12 : decode cX11_isLaw 12 = .ok (.iconst 1, 1) := by decide +kernel
theorem dX11_isLaw_13 : decode cX11_isLaw 13 = .ok (.goto 4, 3) := by decide +kernel
theorem dX11_isLaw_16 : decode cX11_isLaw 16 = .ok (.iconst 0, 1) := by decide +kernel
theorem dX11_isLaw_17 : decode cX11_isLaw 17 = .ok (.ireturn, 1) := by decide +kernel
theorem dX11_push_0 : decode cX11_push 0 = .ok (.aload_n 0, 1) := by decide +kernel
theorem dX11_push_1 : decode cX11_push 1 = .ok (.getfield 38, 3) := by decide +kernel
theorem dX11_push_4 : decode cX11_push 4 = .ok (.aload_n 0, 1) := by decide +kernel
theorem dX11_push_5 : decode cX11_push 5 = .ok (.getfield 242, 3) := by decide +kernel
theorem dX11_push_8 : decode cX11_push 8 = .ok (.lload_n 1, 1) := by decide +kernel
theorem dX11_push_9 : decode cX11_push 9 = .ok (.lastore, 1) := by decide +kernel
theorem dX11_push_10 : decode cX11_push 10 = .ok (.aload_n 0, 1) := by decide +kernel
theorem dX11_push_11 : decode cX11_push 11 = .ok (.dup, 1) := by decide +kernel
theorem dX11_push_12 : decode cX11_push 12 = .ok (.getfield 242, 3) := by decide +kernel
theorem dX11_push_15 : decode cX11_push 15 = .ok (.iconst 1, 1) := by decide +kernel
theorem dX11_push_16 : decode cX11_push 16 = .ok (.iadd, 1) := by decide +kernel
theorem dX11_push_17 : decode cX11_push 17 = .ok (.putfield 242, 3) := by decide +kernel
theorem dX11_push_20 : decode cX11_push 20 = .ok (.return_, 1) := by decide +kernel
theorem dX11_pop_0 : decode cX11_pop 0 = .ok (.aload_n 0, 1) := by decide +kernel
theorem dX11_pop_1 : decode cX11_pop 1 = .ok (.dup, 1) := by decide +kernel
theorem dX11_pop_2 : decode cX11_pop 2 = .ok (.getfield 242, 3) := by decide +kernel
theorem dX11_pop_5 : decode cX11_pop 5 = .ok (.iconst 1, 1) := by decide +kernel
theorem dX11_pop_6 : decode cX11_pop 6 = .ok (.isub, 1) := by decide +kernel
theorem dX11_pop_7 : decode cX11_pop 7 = .ok (.putfield 242, 3) := by decide +kernel
theorem dX11_pop_10 : decode cX11_pop 10 = .ok (.aload_n 0, 1) := by decide +kernel
theorem dX11_pop_11 : decode cX11_pop 11 = .ok (.getfield 38, 3) := by decide +kernel
theorem dX11_pop_14 : decode cX11_pop 14 = .ok (.aload_n 0, 1) := by decide +kernel
theorem dX11_pop_15 : decode cX11_pop 15 = .ok (.getfield 242, 3) := by decide +kernel
theorem dX11_pop_18 : decode cX11_pop 18 = .ok (.laload, 1) := by decide +kernel
theorem dX11_pop_19 : decode cX11_pop 19 = .ok (.lreturn, 1) := by decide +kernel
theorem dX11_one_0 : decode cX11_one 0 = .ok (.iload_n 0, 1) := by decide +kernel
theorem dX11_one_1 : decode cX11_one 1 = .ok (.tableswitch 149 2 12 #[59, 63, 67, 71, 85, 97, 109, 121, 133, 149, 145], 59) := by decide +kernel
theorem dX11_one_60 : decode cX11_one 60 = .ok (.lload_n 1, 1) := by decide +kernel
theorem dX11_one_61 : decode cX11_one 61 = .ok (.lload_n 3, 1) := by decide +kernel
theorem dX11_one_62 : decode cX11_one 62 = .ok (.ladd, 1) := by decide +kernel
theorem dX11_one_63 : decode cX11_one 63 = .ok (.lreturn, 1) := by decide +kernel
theorem dX11_one_64 : decode cX11_one 64 = .ok (.lload_n 1, 1) := by decide +kernel
theorem dX11_one_65 : decode cX11_one 65 = .ok (.lload_n 3, 1) := by decide +kernel
theorem dX11_one_66 : decode cX11_one 66 = .ok (.lsub, 1) := by decide +kernel
theorem dX11_one_67 : decode cX11_one 67 = .ok (.lreturn, 1) := by decide +kernel
theorem dX11_one_68 : decode cX11_one 68 = .ok (.lload_n 1, 1) := by decide +kernel
theorem dX11_one_69 : decode cX11_one 69 = .ok (.lload_n 3, 1) := by decide +kernel
theorem dX11_one_70 : decode cX11_one 70 = .ok (.lmul, 1) := by decide +kernel
theorem dX11_one_71 : decode cX11_one 71 = .ok (.lreturn, 1) := by decide +kernel
theorem dX11_one_72 : decode cX11_one 72 = .ok (.lload_n 3, 1) := by decide +kernel
theorem dX11_one_73 : decode cX11_one 73 = .ok (.lconst 0, 1) := by decide +kernel
theorem dX11_one_74 : decode cX11_one 74 = .ok (.lcmp, 1) := by decide +kernel
theorem dX11_one_75 : decode cX11_one 75 = .ok (.ifCond .ne 7, 3) := by decide +kernel
theorem dX11_one_78 : decode cX11_one 78 = .ok (.lconst 0, 1) := by decide +kernel
theorem dX11_one_79 : decode cX11_one 79 = .ok (.goto 6, 3) := by decide +kernel
theorem dX11_one_82 : decode cX11_one 82 = .ok (.lload_n 1, 1) := by decide +kernel
theorem dX11_one_83 : decode cX11_one 83 = .ok (.lload_n 3, 1) := by decide +kernel
theorem dX11_one_84 : decode cX11_one 84 = .ok (.ldiv, 1) := by decide +kernel
theorem dX11_one_85 : decode cX11_one 85 = .ok (.lreturn, 1) := by decide +kernel
theorem dX11_one_86 : decode cX11_one 86 = .ok (.lload_n 1, 1) := by decide +kernel
theorem dX11_one_87 : decode cX11_one 87 = .ok (.lload_n 3, 1) := by decide +kernel
theorem dX11_one_88 : decode cX11_one 88 = .ok (.lcmp, 1) := by decide +kernel
theorem dX11_one_89 : decode cX11_one 89 = .ok (.ifCond .ge 7, 3) := by decide +kernel
theorem dX11_one_92 : decode cX11_one 92 = .ok (.lconst 1, 1) := by decide +kernel
theorem dX11_one_93 : decode cX11_one 93 = .ok (.goto 4, 3) := by decide +kernel
theorem dX11_one_96 : decode cX11_one 96 = .ok (.lconst 0, 1) := by decide +kernel
theorem dX11_one_97 : decode cX11_one 97 = .ok (.lreturn, 1) := by decide +kernel
theorem dX11_one_98 : decode cX11_one 98 = .ok (.lload_n 1, 1) := by decide +kernel
theorem dX11_one_99 : decode cX11_one 99 = .ok (.lload_n 3, 1) := by decide +kernel
theorem dX11_one_100 : decode cX11_one 100 = .ok (.lcmp, 1) := by decide +kernel
theorem dX11_one_101 : decode cX11_one 101 = .ok (.ifCond .gt 7, 3) := by decide +kernel
theorem dX11_one_104 : decode cX11_one 104 = .ok (.lconst 1, 1) := by decide +kernel
theorem dX11_one_105 : decode cX11_one 105 = .ok (.goto 4, 3) := by decide +kernel
theorem dX11_one_108 : decode cX11_one 108 = .ok (.lconst 0, 1) := by decide +kernel
theorem dX11_one_109 : decode cX11_one 109 = .ok (.lreturn, 1) := by decide +kernel
theorem dX11_one_110 : decode cX11_one 110 = .ok (.lload_n 1, 1) := by decide +kernel
theorem dX11_one_111 : decode cX11_one 111 = .ok (.lload_n 3, 1) := by decide +kernel
theorem dX11_one_112 : decode cX11_one 112 = .ok (.lcmp, 1) := by decide +kernel
theorem dX11_one_113 : decode cX11_one 113 = .ok (.ifCond .ne 7, 3) := by decide +kernel
theorem dX11_one_116 : decode cX11_one 116 = .ok (.lconst 1, 1) := by decide +kernel
theorem dX11_one_117 : decode cX11_one 117 = .ok (.goto 4, 3) := by decide +kernel
theorem dX11_one_120 : decode cX11_one 120 = .ok (.lconst 0, 1) := by decide +kernel
theorem dX11_one_121 : decode cX11_one 121 = .ok (.lreturn, 1) := by decide +kernel
theorem dX11_one_122 : decode cX11_one 122 = .ok (.lload_n 1, 1) := by decide +kernel
theorem dX11_one_123 : decode cX11_one 123 = .ok (.lload_n 3, 1) := by decide +kernel
theorem dX11_one_124 : decode cX11_one 124 = .ok (.lcmp, 1) := by decide +kernel
theorem dX11_one_125 : decode cX11_one 125 = .ok (.ifCond .lt 7, 3) := by decide +kernel
theorem dX11_one_128 : decode cX11_one 128 = .ok (.lconst 1, 1) := by decide +kernel
theorem dX11_one_129 : decode cX11_one 129 = .ok (.goto 4, 3) := by decide +kernel
theorem dX11_one_132 : decode cX11_one 132 = .ok (.lconst 0, 1) := by decide +kernel
theorem dX11_one_133 : decode cX11_one 133 = .ok (.lreturn, 1) := by decide +kernel
theorem dX11_one_134 : decode cX11_one 134 = .ok (.lload_n 1, 1) := by decide +kernel
theorem dX11_one_135 : decode cX11_one 135 = .ok (.lload_n 3, 1) := by decide +kernel
theorem dX11_one_136 : decode cX11_one 136 = .ok (.lcmp, 1) := by decide +kernel
theorem dX11_one_137 : decode cX11_one 137 = .ok (.ifCond .le 7, 3) := by decide +kernel
theorem dX11_one_140 : decode cX11_one 140 = .ok (.lconst 1, 1) := by decide +kernel
theorem dX11_one_141 : decode cX11_one 141 = .ok (.goto 4, 3) := by decide +kernel
theorem dX11_one_144 : decode cX11_one 144 = .ok (.lconst 0, 1) := by decide +kernel
theorem dX11_one_145 : decode cX11_one 145 = .ok (.lreturn, 1) := by decide +kernel
theorem dX11_one_146 : decode cX11_one 146 = .ok (.lload_n 1, 1) := by decide +kernel
theorem dX11_one_147 : decode cX11_one 147 = .ok (.lload_n 3, 1) := by decide +kernel
theorem dX11_one_148 : decode cX11_one 148 = .ok (.land, 1) := by decide +kernel
theorem dX11_one_149 : decode cX11_one 149 = .ok (.lreturn, 1) := by decide +kernel
theorem dX11_one_150 : decode cX11_one 150 = .ok (.lload_n 1, 1) := by decide +kernel
theorem dX11_one_151 : decode cX11_one 151 = .ok (.lload_n 3, 1) := by decide +kernel
theorem dX11_one_152 : decode cX11_one 152 = .ok (.lor, 1) := by decide +kernel
theorem dX11_one_153 : decode cX11_one 153 = .ok (.lreturn, 1) := by decide +kernel
theorem dX11_reckons_0 : decode cX11_reckons 0 = .ok (.aload_n 0, 1) := by decide +kernel
theorem dX11_reckons_1 : decode cX11_reckons 1 = .ok (.iconst 0, 1) := by decide +kernel
theorem dX11_reckons_2 : decode cX11_reckons 2 = .ok (.putfield 242, 3) := by decide +kernel
theorem dX11_reckons_5 : decode cX11_reckons 5 = .ok (.iload_n 2, 1) := by decide +kernel
theorem dX11_reckons_6 : decode cX11_reckons 6 = .ok (.istore 4, 2) := by decide +kernel
theorem dX11_reckons_8 : decode cX11_reckons 8 = .ok (.iload 4, 2) := by decide +kernel
theorem dX11_reckons_10 : decode cX11_reckons 10 = .ok (.iload_n 3, 1) := by decide +kernel
theorem dX11_reckons_11 : decode cX11_reckons 11 = .ok (.if_icmp .ge 124, 3) := by decide +kernel
theorem dX11_reckons_14 : decode cX11_reckons 14 = .ok (.aload_n 0, 1) := by decide +kernel
theorem dX11_reckons_15 : decode cX11_reckons 15 = .ok (.getfield 13, 3) := by decide +kernel
theorem dX11_reckons_18 : decode cX11_reckons 18 = .ok (.sipush 400, 3) := by decide +kernel
theorem dX11_reckons_21 : decode cX11_reckons 21 = .ok (.iload_n 1, 1) := by decide +kernel
theorem dX11_reckons_22 : decode cX11_reckons 22 = .ok (.imul, 1) := by decide +kernel
theorem dX11_reckons_23 : decode cX11_reckons 23 = .ok (.iload 4, 2) := by decide +kernel
theorem dX11_reckons_25 : decode cX11_reckons 25 = .ok (.iadd, 1) := by decide +kernel
theorem dX11_reckons_26 : decode cX11_reckons 26 = .ok (.iaload, 1) := by decide +kernel
theorem dX11_reckons_27 : decode cX11_reckons 27 = .ok (.bipush 15, 2) := by decide +kernel
theorem dX11_reckons_29 : decode cX11_reckons 29 = .ok (.iand, 1) := by decide +kernel
theorem dX11_reckons_30 : decode cX11_reckons 30 = .ok (.istore 5, 2) := by decide +kernel
theorem dX11_reckons_32 : decode cX11_reckons 32 = .ok (.aload_n 0, 1) := by decide +kernel
theorem dX11_reckons_33 : decode cX11_reckons 33 = .ok (.getfield 13, 3) := by decide +kernel
theorem dX11_reckons_36 : decode cX11_reckons 36 = .ok (.sipush 400, 3) := by decide +kernel
theorem dX11_reckons_39 : decode cX11_reckons 39 = .ok (.iload_n 1, 1) := by decide +kernel
theorem dX11_reckons_40 : decode cX11_reckons 40 = .ok (.imul, 1) := by decide +kernel
theorem dX11_reckons_41 : decode cX11_reckons 41 = .ok (.iload 4, 2) := by decide +kernel
theorem dX11_reckons_43 : decode cX11_reckons 43 = .ok (.iadd, 1) := by decide +kernel
theorem dX11_reckons_44 : decode cX11_reckons 44 = .ok (.iaload, 1) := by decide +kernel
theorem dX11_reckons_45 : decode cX11_reckons 45 = .ok (.iconst 4, 1) := by decide +kernel
theorem dX11_reckons_46 : decode cX11_reckons 46 = .ok (.ishr, 1) := by decide +kernel
theorem dX11_reckons_47 : decode cX11_reckons 47 = .ok (.istore 6, 2) := by decide +kernel
theorem dX11_reckons_49 : decode cX11_reckons 49 = .ok (.iload 5, 2) := by decide +kernel
theorem dX11_reckons_51 : decode cX11_reckons 51 = .ok (.ifCond .ne 13, 3) := by decide +kernel
theorem dX11_reckons_54 : decode cX11_reckons 54 = .ok (.aload_n 0, 1) := by decide +kernel
theorem dX11_reckons_55 : decode cX11_reckons 55 = .ok (.iload 6, 2) := by decide +kernel
theorem dX11_reckons_57 : decode cX11_reckons 57 = .ok (.i2l, 1) := by decide +kernel
theorem dX11_reckons_58 : decode cX11_reckons 58 = .ok (.invokevirtual 245, 3) := by decide +kernel
theorem dX11_reckons_61 : decode cX11_reckons 61 = .ok (.goto 68, 3) := by decide +kernel
theorem dX11_reckons_64 : decode cX11_reckons 64 = .ok (.iload 5, 2) := by decide +kernel
theorem dX11_reckons_66 : decode cX11_reckons 66 = .ok (.iconst 1, 1) := by decide +kernel
theorem dX11_reckons_67 : decode cX11_reckons 67 = .ok (.if_icmp .ne 17, 3) := by decide +kernel
theorem dX11_reckons_70 : decode cX11_reckons 70 = .ok (.aload_n 0, 1) := by decide +kernel
theorem dX11_reckons_71 : decode cX11_reckons 71 = .ok (.aload_n 0, 1) := by decide +kernel
theorem dX11_reckons_72 : decode cX11_reckons 72 = .ok (.getfield 42, 3) := by decide +kernel
theorem dX11_reckons_75 : decode cX11_reckons 75 = .ok (.iload 6, 2) := by decide +kernel
theorem dX11_reckons_77 : decode cX11_reckons 77 = .ok (.laload, 1) := by decide +kernel
theorem dX11_reckons_78 : decode cX11_reckons 78 = .ok (.invokevirtual 245, 3) := by decide +kernel
theorem dX11_reckons_81 : decode cX11_reckons 81 = .ok (.goto 48, 3) := by decide +kernel
theorem dX11_reckons_84 : decode cX11_reckons 84 = .ok (.iload 5, 2) := by decide +kernel
theorem dX11_reckons_86 : decode cX11_reckons 86 = .ok (.bipush 11, 2) := by decide +kernel
theorem dX11_reckons_88 : decode cX11_reckons 88 = .ok (.if_icmp .ne 16, 3) := by decide +kernel
theorem dX11_reckons_91 : decode cX11_reckons 91 = .ok (.aload_n 0, 1) := by decide +kernel
theorem dX11_reckons_92 : decode cX11_reckons 92 = .ok (.lconst 1, 1) := by decide +kernel
theorem dX11_reckons_93 : decode cX11_reckons 93 = .ok (.aload_n 0, 1) := by decide +kernel
theorem dX11_reckons_94 : decode cX11_reckons 94 = .ok (.invokevirtual 249, 3) := by decide +kernel
theorem dX11_reckons_97 : decode cX11_reckons 97 = .ok (.lsub, 1) := by decide +kernel
theorem dX11_reckons_98 : decode cX11_reckons 98 = .ok (.invokevirtual 245, 3) := by decide +kernel
theorem dX11_reckons_101 : decode cX11_reckons 101 = .ok (.goto 28, 3) := by decide +kernel
theorem dX11_reckons_104 : decode cX11_reckons 104 = .ok (.aload_n 0, 1) := by decide +kernel
theorem dX11_reckons_105 : decode cX11_reckons 105 = .ok (.invokevirtual 249, 3) := by decide +kernel
theorem dX11_reckons_108 : decode cX11_reckons 108 = .ok (.lstore 7, 2) := by decide +kernel
theorem dX11_reckons_110 : decode cX11_reckons 110 = .ok (.aload_n 0, 1) := by decide +kernel
theorem dX11_reckons_111 : decode cX11_reckons 111 = .ok (.invokevirtual 249, 3) := by decide +kernel
theorem dX11_reckons_114 : decode cX11_reckons 114 = .ok (.lstore 9, 2) := by decide +kernel
theorem dX11_reckons_116 : decode cX11_reckons 116 = .ok (.aload_n 0, 1) := by decide +kernel
theorem dX11_reckons_117 : decode cX11_reckons 117 = .ok (.iload 5, 2) := by decide +kernel
theorem dX11_reckons_119 : decode cX11_reckons 119 = .ok (.lload 9, 2) := by decide +kernel
theorem dX11_reckons_121 : decode cX11_reckons 121 = .ok (.lload 7, 2) := by decide +kernel
theorem dX11_reckons_123 : decode cX11_reckons 123 = .ok (.invokestatic 253, 3) := by decide +kernel
theorem dX11_reckons_126 : decode cX11_reckons 126 = .ok (.invokevirtual 245, 3) := by decide +kernel
theorem dX11_reckons_129 : decode cX11_reckons 129 = .ok (.iinc 4 1, 3) := by decide +kernel
theorem dX11_reckons_132 : decode cX11_reckons 132 = .ok (.goto (-124), 3) := by decide +kernel
theorem dX11_reckons_135 : decode cX11_reckons 135 = .ok (.aload_n 0, 1) := by decide +kernel
theorem dX11_reckons_136 : decode cX11_reckons 136 = .ok (.invokevirtual 249, 3) := by decide +kernel
theorem dX11_reckons_139 : decode cX11_reckons 139 = .ok (.lreturn, 1) := by decide +kernel
theorem dX11_isCock_0 : decode cX11_isCock 0 = .ok (.iload_n 1, 1) := by decide +kernel
theorem dX11_isCock_1 : decode cX11_isCock 1 = .ok (.ifCond .lt 17, 3) := by decide +kernel
theorem dX11_isCock_4 : decode cX11_isCock 4 = .ok (.iload_n 1, 1) := by decide +kernel
theorem dX11_isCock_5 : decode cX11_isCock 5 = .ok (.aload_n 0, 1) := by decide +kernel
theorem dX11_isCock_6 : decode cX11_isCock 6 = .ok (.getfield 45, 3) := by decide +kernel
theorem dX11_isCock_9 : decode cX11_isCock 9 = .ok (.iconst 0, 1) := by decide +kernel
theorem dX11_isCock_10 : decode cX11_isCock 10 = .ok (.iaload, 1) := by decide +kernel
theorem dX11_isCock_11 : decode cX11_isCock 11 = .ok (.if_icmp .ge 7, 3) := by decide +kernel
theorem dX11_isCock_14 : decode cX11_isCock 14 = .ok (.iconst 1, 1) := by decide +kernel
theorem dX11_isCock_15 : decode cX11_isCock 15 = .ok (.goto 4, 3) := by decide +kernel
theorem dX11_isCock_18 : decode cX11_isCock 18 = .ok (.iconst 0, 1) := by decide +kernel
theorem dX11_isCock_19 : decode cX11_isCock 19 = .ok (.ireturn, 1) := by decide +kernel
theorem dX11_isTree_0 : decode cX11_isTree 0 = .ok (.iload_n 1, 1) := by decide +kernel
theorem dX11_isTree_1 : decode cX11_isTree 1 = .ok (.ifCond .lt 17, 3) := by decide +kernel
theorem dX11_isTree_4 : decode cX11_isTree 4 = .ok (.iload_n 1, 1) := by decide +kernel
theorem dX11_isTree_5 : decode cX11_isTree 5 = .ok (.aload_n 0, 1) := by decide +kernel
theorem dX11_isTree_6 : decode cX11_isTree 6 = .ok (.getfield 45, 3) := by decide +kernel
theorem dX11_isTree_9 : decode cX11_isTree 9 = .ok (.iconst 1, 1) := by decide +kernel
theorem dX11_isTree_10 : decode cX11_isTree 10 = .ok (.iaload, 1) := by decide +kernel
theorem dX11_isTree_11 : decode cX11_isTree 11 = .ok (.if_icmp .ge 7, 3) := by decide +kernel
theorem dX11_isTree_14 : decode cX11_isTree 14 = .ok (.iconst 1, 1) := by decide +kernel
theorem dX11_isTree_15 : decode cX11_isTree 15 = .ok (.goto 4, 3) := by decide +kernel
theorem dX11_isTree_18 : decode cX11_isTree 18 = .ok (.iconst 0, 1) := by decide +kernel
theorem dX11_isTree_19 : decode cX11_isTree 19 = .ok (.ireturn, 1) := by decide +kernel
theorem dX11_isPoint_0 : decode cX11_isPoint 0 = .ok (.iload_n 0, 1) := by decide +kernel
theorem dX11_isPoint_1 : decode cX11_isPoint 1 = .ok (.ifCond .lt 13, 3) := by decide +kernel
theorem dX11_isPoint_4 : decode cX11_isPoint 4 = .ok (.iload_n 0, 1) := by decide +kernel
theorem dX11_isPoint_5 : decode cX11_isPoint 5 = .ok (.bipush 8, 2) := by decide +kernel
theorem dX11_isPoint_7 : decode cX11_isPoint 7 = .ok (.if_icmp .ge 7, 3) := by decide +kernel
theorem dX11_isPoint_10 : decode cX11_isPoint 10 = .ok (.iconst 1, 1) := by decide +kernel
theorem dX11_isPoint_11 : decode cX11_isPoint 11 = .ok (.goto 4, 3) := by decide +kernel
theorem dX11_isPoint_14 : decode cX11_isPoint 14 = .ok (.iconst 0, 1) := by decide +kernel
theorem dX11_isPoint_15 : decode cX11_isPoint 15 = .ok (.ireturn, 1) := by decide +kernel
theorem dX11_isWay_0 : decode cX11_isWay 0 = .ok (.iload_n 0, 1) := by decide +kernel
theorem dX11_isWay_1 : decode cX11_isWay 1 = .ok (.ifCond .lt 12, 3) := by decide +kernel
theorem dX11_isWay_4 : decode cX11_isWay 4 = .ok (.iload_n 0, 1) := by decide +kernel
theorem dX11_isWay_5 : decode cX11_isWay 5 = .ok (.iconst 4, 1) := by decide +kernel
theorem dX11_isWay_6 : decode cX11_isWay 6 = .ok (.if_icmp .ge 7, 3) := by decide +kernel
theorem dX11_isWay_9 : decode cX11_isWay 9 = .ok (.iconst 1, 1) := by decide +kernel
theorem dX11_isWay_10 : decode cX11_isWay 10 = .ok (.goto 4, 3) := by decide +kernel
theorem dX11_isWay_13 : decode cX11_isWay 13 = .ok (.iconst 0, 1) := by decide +kernel
theorem dX11_isWay_14 : decode cX11_isWay 14 = .ok (.ireturn, 1) := by decide +kernel
theorem dX11_isSet_0 : decode cX11_isSet 0 = .ok (.iload_n 1, 1) := by decide +kernel
theorem dX11_isSet_1 : decode cX11_isSet 1 = .ok (.ifCond .lt 19, 3) := by decide +kernel
theorem dX11_isSet_4 : decode cX11_isSet 4 = .ok (.iload_n 1, 1) := by decide +kernel
theorem dX11_isSet_5 : decode cX11_isSet 5 = .ok (.iconst 1, 1) := by decide +kernel
theorem dX11_isSet_6 : decode cX11_isSet 6 = .ok (.aload_n 0, 1) := by decide +kernel
theorem dX11_isSet_7 : decode cX11_isSet 7 = .ok (.getfield 45, 3) := by decide +kernel
theorem dX11_isSet_10 : decode cX11_isSet 10 = .ok (.iconst 0, 1) := by decide +kernel
theorem dX11_isSet_11 : decode cX11_isSet 11 = .ok (.iaload, 1) := by decide +kernel
theorem dX11_isSet_12 : decode cX11_isSet 12 = .ok (.ishl, 1) := by decide +kernel
theorem dX11_isSet_13 : decode cX11_isSet 13 = .ok (.if_icmp .ge 7, 3) := by decide +kernel
theorem dX11_isSet_16 : decode cX11_isSet 16 = .ok (.iconst 1, 1) := by decide +kernel
theorem dX11_isSet_17 : decode cX11_isSet 17 = .ok (.goto 4, 3) := by decide +kernel
theorem dX11_isSet_20 : decode cX11_isSet 20 = .ok (.iconst 0, 1) := by decide +kernel
theorem dX11_isSet_21 : decode cX11_isSet 21 = .ok (.ireturn, 1) := by decide +kernel
theorem dX11_cockOf_0 : decode cX11_cockOf 0 = .ok (.aload_n 0, 1) := by decide +kernel
theorem dX11_cockOf_1 : decode cX11_cockOf 1 = .ok (.getfield 45, 3) := by decide +kernel
theorem dX11_cockOf_4 : decode cX11_cockOf 4 = .ok (.iconst 4, 1) := by decide +kernel
theorem dX11_cockOf_5 : decode cX11_cockOf 5 = .ok (.bipush 7, 2) := by decide +kernel
theorem dX11_cockOf_7 : decode cX11_cockOf 7 = .ok (.iload_n 1, 1) := by decide +kernel
theorem dX11_cockOf_8 : decode cX11_cockOf 8 = .ok (.imul, 1) := by decide +kernel
theorem dX11_cockOf_9 : decode cX11_cockOf 9 = .ok (.iadd, 1) := by decide +kernel
theorem dX11_cockOf_10 : decode cX11_cockOf 10 = .ok (.iload_n 2, 1) := by decide +kernel
theorem dX11_cockOf_11 : decode cX11_cockOf 11 = .ok (.iadd, 1) := by decide +kernel
theorem dX11_cockOf_12 : decode cX11_cockOf 12 = .ok (.iaload, 1) := by decide +kernel
theorem dX11_cockOf_13 : decode cX11_cockOf 13 = .ok (.ireturn, 1) := by decide +kernel
theorem dX11_treeOf_0 : decode cX11_treeOf 0 = .ok (.aload_n 0, 1) := by decide +kernel
theorem dX11_treeOf_1 : decode cX11_treeOf 1 = .ok (.getfield 45, 3) := by decide +kernel
theorem dX11_treeOf_4 : decode cX11_treeOf 4 = .ok (.bipush 88, 2) := by decide +kernel
theorem dX11_treeOf_6 : decode cX11_treeOf 6 = .ok (.iconst 3, 1) := by decide +kernel
theorem dX11_treeOf_7 : decode cX11_treeOf 7 = .ok (.iload_n 1, 1) := by decide +kernel
theorem dX11_treeOf_8 : decode cX11_treeOf 8 = .ok (.imul, 1) := by decide +kernel
theorem dX11_treeOf_9 : decode cX11_treeOf 9 = .ok (.iadd, 1) := by decide +kernel
theorem dX11_treeOf_10 : decode cX11_treeOf 10 = .ok (.iload_n 2, 1) := by decide +kernel
theorem dX11_treeOf_11 : decode cX11_treeOf 11 = .ok (.iadd, 1) := by decide +kernel
theorem dX11_treeOf_12 : decode cX11_treeOf 12 = .ok (.iaload, 1) := by decide +kernel
theorem dX11_treeOf_13 : decode cX11_treeOf 13 = .ok (.ireturn, 1) := by decide +kernel
theorem dX11_cock_0 : decode cX11_cock 0 = .ok (.aload_n 0, 1) := by decide +kernel
theorem dX11_cock_1 : decode cX11_cock 1 = .ok (.iload_n 1, 1) := by decide +kernel
theorem dX11_cock_2 : decode cX11_cock 2 = .ok (.invokevirtual 257, 3) := by decide +kernel
theorem dX11_cock_5 : decode cX11_cock 5 = .ok (.ifCond .eq 24, 3) := by decide +kernel
theorem dX11_cock_8 : decode cX11_cock 8 = .ok (.iload_n 2, 1) := by decide +kernel
theorem dX11_cock_9 : decode cX11_cock 9 = .ok (.i2l, 1) := by decide +kernel
theorem dX11_cock_10 : decode cX11_cock 10 = .ok (.lconst 0, 1) := by decide +kernel
theorem dX11_cock_11 : decode cX11_cock 11 = .ok (.ldc2_w 260, 3) := by decide +kernel
theorem dX11_cock_14 : decode cX11_cock 14 = .ok (.invokestatic 109, 3) := by decide +kernel
theorem dX11_cock_17 : decode cX11_cock 17 = .ok (.ifCond .eq 12, 3) := by decide +kernel
theorem dX11_cock_20 : decode cX11_cock 20 = .ok (.aload_n 0, 1) := by decide +kernel
theorem dX11_cock_21 : decode cX11_cock 21 = .ok (.iload_n 1, 1) := by decide +kernel
theorem dX11_cock_22 : decode cX11_cock 22 = .ok (.iload_n 2, 1) := by decide +kernel
theorem dX11_cock_23 : decode cX11_cock 23 = .ok (.invokevirtual 262, 3) := by decide +kernel
theorem dX11_cock_26 : decode cX11_cock 26 = .ok (.goto 4, 3) := by decide +kernel
theorem dX11_cock_29 : decode cX11_cock 29 = .ok (.iconst (-1), 1) := by decide +kernel
theorem dX11_cock_30 : decode cX11_cock 30 = .ok (.ireturn, 1) := by decide +kernel
theorem dX11_tree_0 : decode cX11_tree 0 = .ok (.aload_n 0, 1) := by decide +kernel
theorem dX11_tree_1 : decode cX11_tree 1 = .ok (.iload_n 1, 1) := by decide +kernel
theorem dX11_tree_2 : decode cX11_tree 2 = .ok (.invokevirtual 266, 3) := by decide +kernel
theorem dX11_tree_5 : decode cX11_tree 5 = .ok (.ifCond .eq 24, 3) := by decide +kernel
theorem dX11_tree_8 : decode cX11_tree 8 = .ok (.iload_n 2, 1) := by decide +kernel
theorem dX11_tree_9 : decode cX11_tree 9 = .ok (.i2l, 1) := by decide +kernel
theorem dX11_tree_10 : decode cX11_tree 10 = .ok (.lconst 0, 1) := by decide +kernel
theorem dX11_tree_11 : decode cX11_tree 11 = .ok (.ldc2_w 269, 3) := by decide +kernel
theorem dX11_tree_14 : decode cX11_tree 14 = .ok (.invokestatic 109, 3) := by decide +kernel
theorem dX11_tree_17 : decode cX11_tree 17 = .ok (.ifCond .eq 12, 3) := by decide +kernel
theorem dX11_tree_20 : decode cX11_tree 20 = .ok (.aload_n 0, 1) := by decide +kernel
theorem dX11_tree_21 : decode cX11_tree 21 = .ok (.iload_n 1, 1) := by decide +kernel
theorem dX11_tree_22 : decode cX11_tree 22 = .ok (.iload_n 2, 1) := by decide +kernel
theorem dX11_tree_23 : decode cX11_tree 23 = .ok (.invokevirtual 271, 3) := by decide +kernel
theorem dX11_tree_26 : decode cX11_tree 26 = .ok (.goto 4, 3) := by decide +kernel
theorem dX11_tree_29 : decode cX11_tree 29 = .ok (.iconst (-1), 1) := by decide +kernel
theorem dX11_tree_30 : decode cX11_tree 30 = .ok (.ireturn, 1) := by decide +kernel
theorem dX11_worth_0 : decode cX11_worth 0 = .ok (.aload_n 0, 1) := by decide +kernel
theorem dX11_worth_1 : decode cX11_worth 1 = .ok (.getfield 45, 3) := by decide +kernel
theorem dX11_worth_4 : decode cX11_worth 4 = .ok (.iconst 0, 1) := by decide +kernel
theorem dX11_worth_5 : decode cX11_worth 5 = .ok (.iaload, 1) := by decide +kernel
theorem dX11_worth_6 : decode cX11_worth 6 = .ok (.ifCond .le 39, 3) := by decide +kernel
theorem dX11_worth_9 : decode cX11_worth 9 = .ok (.iload_n 1, 1) := by decide +kernel
theorem dX11_worth_10 : decode cX11_worth 10 = .ok (.i2l, 1) := by decide +kernel
theorem dX11_worth_11 : decode cX11_worth 11 = .ok (.lconst 0, 1) := by decide +kernel
theorem dX11_worth_12 : decode cX11_worth 12 = .ok (.ldc2_w 274, 3) := by decide +kernel
theorem dX11_worth_15 : decode cX11_worth 15 = .ok (.invokestatic 109, 3) := by decide +kernel
theorem dX11_worth_18 : decode cX11_worth 18 = .ok (.ifCond .eq 27, 3) := by decide +kernel
theorem dX11_worth_21 : decode cX11_worth 21 = .ok (.iload_n 2, 1) := by decide +kernel
theorem dX11_worth_22 : decode cX11_worth 22 = .ok (.invokestatic 276, 3) := by decide +kernel
theorem dX11_worth_25 : decode cX11_worth 25 = .ok (.ifCond .eq 20, 3) := by decide +kernel
theorem dX11_worth_28 : decode cX11_worth 28 = .ok (.aload_n 0, 1) := by decide +kernel
theorem dX11_worth_29 : decode cX11_worth 29 = .ok (.getfield 45, 3) := by decide +kernel
theorem dX11_worth_32 : decode cX11_worth 32 = .ok (.bipush 124, 2) := by decide +kernel
theorem dX11_worth_34 : decode cX11_worth 34 = .ok (.bipush 8, 2) := by decide +kernel
theorem dX11_worth_36 : decode cX11_worth 36 = .ok (.iload_n 1, 1) := by decide +kernel
theorem dX11_worth_37 : decode cX11_worth 37 = .ok (.imul, 1) := by decide +kernel
theorem dX11_worth_38 : decode cX11_worth 38 = .ok (.iadd, 1) := by decide +kernel
theorem dX11_worth_39 : decode cX11_worth 39 = .ok (.iload_n 2, 1) := by decide +kernel
theorem dX11_worth_40 : decode cX11_worth 40 = .ok (.iadd, 1) := by decide +kernel
theorem dX11_worth_41 : decode cX11_worth 41 = .ok (.iaload, 1) := by decide +kernel
theorem dX11_worth_42 : decode cX11_worth 42 = .ok (.goto 4, 3) := by decide +kernel
theorem dX11_worth_45 : decode cX11_worth 45 = .ok (.iconst (-1), 1) := by decide +kernel
theorem dX11_worth_46 : decode cX11_worth 46 = .ok (.ireturn, 1) := by decide +kernel
theorem dX11_leeOf_0 : decode cX11_leeOf 0 = .ok (.iconst 0, 1) := by decide +kernel
theorem dX11_leeOf_1 : decode cX11_leeOf 1 = .ok (.istore 4, 2) := by decide +kernel
theorem dX11_leeOf_3 : decode cX11_leeOf 3 = .ok (.iconst 0, 1) := by decide +kernel
theorem dX11_leeOf_4 : decode cX11_leeOf 4 = .ok (.istore 5, 2) := by decide +kernel
theorem dX11_leeOf_6 : decode cX11_leeOf 6 = .ok (.iload 5, 2) := by decide +kernel
theorem dX11_leeOf_8 : decode cX11_leeOf 8 = .ok (.aload_n 0, 1) := by decide +kernel
theorem dX11_leeOf_9 : decode cX11_leeOf 9 = .ok (.getfield 45, 3) := by decide +kernel
theorem dX11_leeOf_12 : decode cX11_leeOf 12 = .ok (.iconst 1, 1) := by decide +kernel
theorem dX11_leeOf_13 : decode cX11_leeOf 13 = .ok (.iaload, 1) := by decide +kernel
theorem dX11_leeOf_14 : decode cX11_leeOf 14 = .ok (.if_icmp .ge 102, 3) := by decide +kernel
theorem dX11_leeOf_17 : decode cX11_leeOf 17 = .ok (.iload 5, 2) := by decide +kernel
theorem dX11_leeOf_19 : decode cX11_leeOf 19 = .ok (.iload_n 3, 1) := by decide +kernel
theorem dX11_leeOf_20 : decode cX11_leeOf 20 = .ok (.if_icmp .eq 90, 3) := by decide +kernel
theorem dX11_leeOf_23 : decode cX11_leeOf 23 = .ok (.aload_n 0, 1) := by decide +kernel
theorem dX11_leeOf_24 : decode cX11_leeOf 24 = .ok (.iload 5, 2) := by decide +kernel
theorem dX11_leeOf_26 : decode cX11_leeOf 26 = .ok (.iconst 2, 1) := by decide +kernel
theorem dX11_leeOf_27 : decode cX11_leeOf 27 = .ok (.invokevirtual 271, 3) := by decide +kernel
theorem dX11_leeOf_30 : decode cX11_leeOf 30 = .ok (.iconst 1, 1) := by decide +kernel
theorem dX11_leeOf_31 : decode cX11_leeOf 31 = .ok (.if_icmp .ne 6, 3) := by decide +kernel
theorem dX11_leeOf_34 : decode cX11_leeOf 34 = .ok (.goto 76, 3) := by decide +kernel
theorem dX11_leeOf_37 : decode cX11_leeOf 37 = .ok (.iconst 1, 1) := by decide +kernel
theorem dX11_leeOf_38 : decode cX11_leeOf 38 = .ok (.istore 6, 2) := by decide +kernel
theorem dX11_leeOf_40 : decode cX11_leeOf 40 = .ok (.iload 6, 2) := by decide +kernel
theorem dX11_leeOf_42 : decode cX11_leeOf 42 = .ok (.iconst 4, 1) := by decide +kernel
theorem dX11_leeOf_43 : decode cX11_leeOf 43 = .ok (.if_icmp .ge 67, 3) := by decide +kernel
theorem dX11_leeOf_46 : decode cX11_leeOf 46 = .ok (.iload 4, 2) := by decide +kernel
theorem dX11_leeOf_48 : decode cX11_leeOf 48 = .ok (.aload_n 0, 1) := by decide +kernel
theorem dX11_leeOf_49 : decode cX11_leeOf 49 = .ok (.iload 5, 2) := by decide +kernel
theorem dX11_leeOf_51 : decode cX11_leeOf 51 = .ok (.iconst 0, 1) := by decide +kernel
theorem dX11_leeOf_52 : decode cX11_leeOf 52 = .ok (.invokevirtual 271, 3) := by decide +kernel
theorem dX11_leeOf_55 : decode cX11_leeOf 55 = .ok (.aload_n 0, 1) := by decide +kernel
theorem dX11_leeOf_56 : decode cX11_leeOf 56 = .ok (.iload_n 1, 1) := by decide +kernel
theorem dX11_leeOf_57 : decode cX11_leeOf 57 = .ok (.iconst 0, 1) := by decide +kernel
theorem dX11_leeOf_58 : decode cX11_leeOf 58 = .ok (.invokevirtual 262, 3) := by decide +kernel
theorem dX11_leeOf_61 : decode cX11_leeOf 61 = .ok (.iload 6, 2) := by decide +kernel
theorem dX11_leeOf_63 : decode cX11_leeOf 63 = .ok (.iload_n 2, 1) := by decide +kernel
theorem dX11_leeOf_64 : decode cX11_leeOf 64 = .ok (.invokestatic 279, 3) := by decide +kernel
theorem dX11_leeOf_67 : decode cX11_leeOf 67 = .ok (.imul, 1) := by decide +kernel
theorem dX11_leeOf_68 : decode cX11_leeOf 68 = .ok (.iadd, 1) := by decide +kernel
theorem dX11_leeOf_69 : decode cX11_leeOf 69 = .ok (.if_icmp .ne 31, 3) := by decide +kernel
theorem dX11_leeOf_72 : decode cX11_leeOf 72 = .ok (.aload_n 0, 1) := by decide +kernel
theorem dX11_leeOf_73 : decode cX11_leeOf 73 = .ok (.iload 5, 2) := by decide +kernel
theorem dX11_leeOf_75 : decode cX11_leeOf 75 = .ok (.iconst 1, 1) := by decide +kernel
theorem dX11_leeOf_76 : decode cX11_leeOf 76 = .ok (.invokevirtual 271, 3) := by decide +kernel
theorem dX11_leeOf_79 : decode cX11_leeOf 79 = .ok (.aload_n 0, 1) := by decide +kernel
theorem dX11_leeOf_80 : decode cX11_leeOf 80 = .ok (.iload_n 1, 1) := by decide +kernel
theorem dX11_leeOf_81 : decode cX11_leeOf 81 = .ok (.iconst 1, 1) := by decide +kernel
theorem dX11_leeOf_82 : decode cX11_leeOf 82 = .ok (.invokevirtual 262, 3) := by decide +kernel
theorem dX11_leeOf_85 : decode cX11_leeOf 85 = .ok (.iload 6, 2) := by decide +kernel
theorem dX11_leeOf_87 : decode cX11_leeOf 87 = .ok (.iload_n 2, 1) := by decide +kernel
theorem dX11_leeOf_88 : decode cX11_leeOf 88 = .ok (.invokestatic 282, 3) := by decide +kernel
theorem dX11_leeOf_91 : decode cX11_leeOf 91 = .ok (.imul, 1) := by decide +kernel
theorem dX11_leeOf_92 : decode cX11_leeOf 92 = .ok (.iadd, 1) := by decide +kernel
theorem dX11_leeOf_93 : decode cX11_leeOf 93 = .ok (.if_icmp .ne 7, 3) := by decide +kernel
theorem dX11_leeOf_96 : decode cX11_leeOf 96 = .ok (.iconst 1, 1) := by decide +kernel
theorem dX11_leeOf_97 : decode cX11_leeOf 97 = .ok (.goto 4, 3) := by decide +kernel
theorem dX11_leeOf_100 : decode cX11_leeOf 100 = .ok (.iconst 0, 1) := by decide +kernel
theorem dX11_leeOf_101 : decode cX11_leeOf 101 = .ok (.iadd, 1) := by decide +kernel
theorem dX11_leeOf_102 : decode cX11_leeOf 102 = .ok (.istore 4, 2) := by decide +kernel
theorem dX11_leeOf_104 : decode cX11_leeOf 104 = .ok (.iinc 6 1, 3) := by decide +kernel
theorem dX11_leeOf_107 : decode cX11_leeOf 107 = .ok (.goto (-67), 3) := by decide +kernel
theorem dX11_leeOf_110 : decode cX11_leeOf 110 = .ok (.iinc 5 1, 3) := by decide +kernel
theorem dX11_leeOf_113 : decode cX11_leeOf 113 = .ok (.goto (-107), 3) := by decide +kernel
theorem dX11_leeOf_116 : decode cX11_leeOf 116 = .ok (.iload 4, 2) := by decide +kernel
theorem dX11_leeOf_118 : decode cX11_leeOf 118 = .ok (.ireturn, 1) := by decide +kernel
theorem dX11_lee_0 : decode cX11_lee 0 = .ok (.aload_n 0, 1) := by decide +kernel
theorem dX11_lee_1 : decode cX11_lee 1 = .ok (.iload_n 1, 1) := by decide +kernel
theorem dX11_lee_2 : decode cX11_lee 2 = .ok (.invokevirtual 257, 3) := by decide +kernel
theorem dX11_lee_5 : decode cX11_lee 5 = .ok (.ifCond .eq 20, 3) := by decide +kernel
theorem dX11_lee_8 : decode cX11_lee 8 = .ok (.iload_n 2, 1) := by decide +kernel
theorem dX11_lee_9 : decode cX11_lee 9 = .ok (.invokestatic 276, 3) := by decide +kernel
theorem dX11_lee_12 : decode cX11_lee 12 = .ok (.ifCond .eq 13, 3) := by decide +kernel
theorem dX11_lee_15 : decode cX11_lee 15 = .ok (.aload_n 0, 1) := by decide +kernel
theorem dX11_lee_16 : decode cX11_lee 16 = .ok (.iload_n 1, 1) := by decide +kernel
theorem dX11_lee_17 : decode cX11_lee 17 = .ok (.iload_n 2, 1) := by decide +kernel
theorem dX11_lee_18 : decode cX11_lee 18 = .ok (.iconst (-1), 1) := by decide +kernel
theorem dX11_lee_19 : decode cX11_lee 19 = .ok (.invokevirtual 285, 3) := by decide +kernel
theorem dX11_lee_22 : decode cX11_lee 22 = .ok (.goto 4, 3) := by decide +kernel
theorem dX11_lee_25 : decode cX11_lee 25 = .ok (.iconst (-1), 1) := by decide +kernel
theorem dX11_lee_26 : decode cX11_lee 26 = .ok (.ireturn, 1) := by decide +kernel
theorem dX11_turnsBy_0 : decode cX11_turnsBy 0 = .ok (.iconst 0, 1) := by decide +kernel
theorem dX11_turnsBy_1 : decode cX11_turnsBy 1 = .ok (.istore_n 3, 1) := by decide +kernel
theorem dX11_turnsBy_2 : decode cX11_turnsBy 2 = .ok (.iload_n 3, 1) := by decide +kernel
theorem dX11_turnsBy_3 : decode cX11_turnsBy 3 = .ok (.aload_n 0, 1) := by decide +kernel
theorem dX11_turnsBy_4 : decode cX11_turnsBy 4 = .ok (.getfield 23, 3) := by decide +kernel
theorem dX11_turnsBy_7 : decode cX11_turnsBy 7 = .ok (.iload_n 1, 1) := by decide +kernel
theorem dX11_turnsBy_8 : decode cX11_turnsBy 8 = .ok (.iaload, 1) := by decide +kernel
theorem dX11_turnsBy_9 : decode cX11_turnsBy 9 = .ok (.if_icmp .ge 122, 3) := by decide +kernel
theorem dX11_turnsBy_12 : decode cX11_turnsBy 12 = .ok (.bipush 48, 2) := by decide +kernel
theorem dX11_turnsBy_14 : decode cX11_turnsBy 14 = .ok (.iload_n 1, 1) := by decide +kernel
theorem dX11_turnsBy_15 : decode cX11_turnsBy 15 = .ok (.imul, 1) := by decide +kernel
theorem dX11_turnsBy_16 : decode cX11_turnsBy 16 = .ok (.iconst 4, 1) := by decide +kernel
theorem dX11_turnsBy_17 : decode cX11_turnsBy 17 = .ok (.iload_n 3, 1) := by decide +kernel
theorem dX11_turnsBy_18 : decode cX11_turnsBy 18 = .ok (.imul, 1) := by decide +kernel
theorem dX11_turnsBy_19 : decode cX11_turnsBy 19 = .ok (.iadd, 1) := by decide +kernel
theorem dX11_turnsBy_20 : decode cX11_turnsBy 20 = .ok (.istore 4, 2) := by decide +kernel
theorem dX11_turnsBy_22 : decode cX11_turnsBy 22 = .ok (.aload_n 0, 1) := by decide +kernel
theorem dX11_turnsBy_23 : decode cX11_turnsBy 23 = .ok (.getfield 20, 3) := by decide +kernel
theorem dX11_turnsBy_26 : decode cX11_turnsBy 26 = .ok (.iload 4, 2) := by decide +kernel
theorem dX11_turnsBy_28 : decode cX11_turnsBy 28 = .ok (.iconst 2, 1) := by decide +kernel
theorem dX11_turnsBy_29 : decode cX11_turnsBy 29 = .ok (.iadd, 1) := by decide +kernel
theorem dX11_turnsBy_30 : decode cX11_turnsBy 30 = .ok (.iaload, 1) := by decide +kernel
theorem dX11_turnsBy_31 : decode cX11_turnsBy 31 = .ok (.ifCond .lt 34, 3) := by decide +kernel
theorem dX11_turnsBy_34 : decode cX11_turnsBy 34 = .ok (.aload_n 0, 1) := by decide +kernel
theorem dX11_turnsBy_35 : decode cX11_turnsBy 35 = .ok (.iload_n 1, 1) := by decide +kernel
theorem dX11_turnsBy_36 : decode cX11_turnsBy 36 = .ok (.aload_n 0, 1) := by decide +kernel
theorem dX11_turnsBy_37 : decode cX11_turnsBy 37 = .ok (.getfield 20, 3) := by decide +kernel
theorem dX11_turnsBy_40 : decode cX11_turnsBy 40 = .ok (.iload 4, 2) := by decide +kernel
theorem dX11_turnsBy_42 : decode cX11_turnsBy 42 = .ok (.iconst 2, 1) := by decide +kernel
theorem dX11_turnsBy_43 : decode cX11_turnsBy 43 = .ok (.iadd, 1) := by decide +kernel
theorem dX11_turnsBy_44 : decode cX11_turnsBy 44 = .ok (.iaload, 1) := by decide +kernel
theorem dX11_turnsBy_45 : decode cX11_turnsBy 45 = .ok (.aload_n 0, 1) := by decide +kernel
theorem dX11_turnsBy_46 : decode cX11_turnsBy 46 = .ok (.getfield 20, 3) := by decide +kernel
theorem dX11_turnsBy_49 : decode cX11_turnsBy 49 = .ok (.iload 4, 2) := by decide +kernel
theorem dX11_turnsBy_51 : decode cX11_turnsBy 51 = .ok (.iconst 3, 1) := by decide +kernel
theorem dX11_turnsBy_52 : decode cX11_turnsBy 52 = .ok (.iadd, 1) := by decide +kernel
theorem dX11_turnsBy_53 : decode cX11_turnsBy 53 = .ok (.iaload, 1) := by decide +kernel
theorem dX11_turnsBy_54 : decode cX11_turnsBy 54 = .ok (.invokevirtual 289, 3) := by decide +kernel
theorem dX11_turnsBy_57 : decode cX11_turnsBy 57 = .ok (.lconst 0, 1) := by decide +kernel
theorem dX11_turnsBy_58 : decode cX11_turnsBy 58 = .ok (.lcmp, 1) := by decide +kernel
theorem dX11_turnsBy_59 : decode cX11_turnsBy 59 = .ok (.ifCond .ne 6, 3) := by decide +kernel
theorem dX11_turnsBy_62 : decode cX11_turnsBy 62 = .ok (.goto 63, 3) := by decide +kernel
theorem dX11_turnsBy_65 : decode cX11_turnsBy 65 = .ok (.aload_n 0, 1) := by decide +kernel
theorem dX11_turnsBy_66 : decode cX11_turnsBy 66 = .ok (.iload_n 1, 1) := by decide +kernel
theorem dX11_turnsBy_67 : decode cX11_turnsBy 67 = .ok (.aload_n 0, 1) := by decide +kernel
theorem dX11_turnsBy_68 : decode cX11_turnsBy 68 = .ok (.getfield 20, 3) := by decide +kernel
theorem dX11_turnsBy_71 : decode cX11_turnsBy 71 = .ok (.iload 4, 2) := by decide +kernel
theorem dX11_turnsBy_73 : decode cX11_turnsBy 73 = .ok (.iaload, 1) := by decide +kernel
theorem dX11_turnsBy_74 : decode cX11_turnsBy 74 = .ok (.aload_n 0, 1) := by decide +kernel
theorem dX11_turnsBy_75 : decode cX11_turnsBy 75 = .ok (.getfield 20, 3) := by decide +kernel
theorem dX11_turnsBy_78 : decode cX11_turnsBy 78 = .ok (.iload 4, 2) := by decide +kernel
theorem dX11_turnsBy_80 : decode cX11_turnsBy 80 = .ok (.iconst 1, 1) := by decide +kernel
theorem dX11_turnsBy_81 : decode cX11_turnsBy 81 = .ok (.iadd, 1) := by decide +kernel
theorem dX11_turnsBy_82 : decode cX11_turnsBy 82 = .ok (.iaload, 1) := by decide +kernel
theorem dX11_turnsBy_83 : decode cX11_turnsBy 83 = .ok (.invokevirtual 289, 3) := by decide +kernel
theorem dX11_turnsBy_86 : decode cX11_turnsBy 86 = .ok (.lstore 5, 2) := by decide +kernel
theorem dX11_turnsBy_88 : decode cX11_turnsBy 88 = .ok (.lload 5, 2) := by decide +kernel
theorem dX11_turnsBy_90 : decode cX11_turnsBy 90 = .ok (.lconst 0, 1) := by decide +kernel
theorem dX11_turnsBy_91 : decode cX11_turnsBy 91 = .ok (.lcmp, 1) := by decide +kernel
theorem dX11_turnsBy_92 : decode cX11_turnsBy 92 = .ok (.ifCond .ge 7, 3) := by decide +kernel
theorem dX11_turnsBy_95 : decode cX11_turnsBy 95 = .ok (.iconst 0, 1) := by decide +kernel
theorem dX11_turnsBy_96 : decode cX11_turnsBy 96 = .ok (.goto 28, 3) := by decide +kernel
theorem dX11_turnsBy_99 : decode cX11_turnsBy 99 = .ok (.lload 5, 2) := by decide +kernel
theorem dX11_turnsBy_101 : decode cX11_turnsBy 101 = .ok (.aload_n 0, 1) := by decide +kernel
theorem dX11_turnsBy_102 : decode cX11_turnsBy 102 = .ok (.getfield 42, 3) := by decide +kernel
theorem dX11_turnsBy_105 : decode cX11_turnsBy 105 = .ok (.iconst 5, 1) := by decide +kernel
theorem dX11_turnsBy_106 : decode cX11_turnsBy 106 = .ok (.laload, 1) := by decide +kernel
theorem dX11_turnsBy_107 : decode cX11_turnsBy 107 = .ok (.lcmp, 1) := by decide +kernel
theorem dX11_turnsBy_108 : decode cX11_turnsBy 108 = .ok (.ifCond .le 13, 3) := by decide +kernel
theorem dX11_turnsBy_111 : decode cX11_turnsBy 111 = .ok (.aload_n 0, 1) := by decide +kernel
theorem dX11_turnsBy_112 : decode cX11_turnsBy 112 = .ok (.getfield 42, 3) := by decide +kernel
theorem dX11_turnsBy_115 : decode cX11_turnsBy 115 = .ok (.iconst 5, 1) := by decide +kernel
theorem dX11_turnsBy_116 : decode cX11_turnsBy 116 = .ok (.laload, 1) := by decide +kernel
theorem dX11_turnsBy_117 : decode cX11_turnsBy 117 = .ok (.l2i, 1) := by decide +kernel
theorem dX11_turnsBy_118 : decode cX11_turnsBy 118 = .ok (.goto 6, 3) := by decide +kernel
theorem dX11_turnsBy_121 : decode cX11_turnsBy 121 = .ok (.lload 5, 2) := by decide +kernel
theorem dX11_turnsBy_123 : decode cX11_turnsBy 123 = .ok (.l2i, 1) := by decide +kernel
theorem dX11_turnsBy_124 : decode cX11_turnsBy 124 = .ok (.ireturn, 1) := by decide +kernel
theorem dX11_turnsBy_125 : decode cX11_turnsBy 125 = .ok (.iinc 3 1, 3) := by decide +kernel
theorem dX11_turnsBy_128 : decode cX11_turnsBy 128 = .ok (.goto (-126), 3) := by decide +kernel
theorem dX11_turnsBy_131 : decode cX11_turnsBy 131 = .ok (.iconst 0, 1) := by decide +kernel
theorem dX11_turnsBy_132 : decode cX11_turnsBy 132 = .ok (.ireturn, 1) := by decide +kernel
theorem dX11_goesTo_0 : decode cX11_goesTo 0 = .ok (.iload_n 3, 1) := by decide +kernel
theorem dX11_goesTo_1 : decode cX11_goesTo 1 = .ok (.istore 8, 2) := by decide +kernel
theorem dX11_goesTo_3 : decode cX11_goesTo 3 = .ok (.iconst 0, 1) := by decide +kernel
theorem dX11_goesTo_4 : decode cX11_goesTo 4 = .ok (.istore 9, 2) := by decide +kernel
theorem dX11_goesTo_6 : decode cX11_goesTo 6 = .ok (.iload 9, 2) := by decide +kernel
theorem dX11_goesTo_8 : decode cX11_goesTo 8 = .ok (.iload 5, 2) := by decide +kernel
theorem dX11_goesTo_10 : decode cX11_goesTo 10 = .ok (.if_icmp .ge 153, 3) := by decide +kernel
theorem dX11_goesTo_13 : decode cX11_goesTo 13 = .ok (.aload_n 0, 1) := by decide +kernel
theorem dX11_goesTo_14 : decode cX11_goesTo 14 = .ok (.getfield 42, 3) := by decide +kernel
theorem dX11_goesTo_17 : decode cX11_goesTo 17 = .ok (.iconst 0, 1) := by decide +kernel
theorem dX11_goesTo_18 : decode cX11_goesTo 18 = .ok (.iload_n 2, 1) := by decide +kernel
theorem dX11_goesTo_19 : decode cX11_goesTo 19 = .ok (.i2l, 1) := by decide +kernel
theorem dX11_goesTo_20 : decode cX11_goesTo 20 = .ok (.lastore, 1) := by decide +kernel
theorem dX11_goesTo_21 : decode cX11_goesTo 21 = .ok (.aload_n 0, 1) := by decide +kernel
theorem dX11_goesTo_22 : decode cX11_goesTo 22 = .ok (.getfield 42, 3) := by decide +kernel
theorem dX11_goesTo_25 : decode cX11_goesTo 25 = .ok (.iconst 1, 1) := by decide +kernel
theorem dX11_goesTo_26 : decode cX11_goesTo 26 = .ok (.iload 6, 2) := by decide +kernel
theorem dX11_goesTo_28 : decode cX11_goesTo 28 = .ok (.i2l, 1) := by decide +kernel
theorem dX11_goesTo_29 : decode cX11_goesTo 29 = .ok (.lastore, 1) := by decide +kernel
theorem dX11_goesTo_30 : decode cX11_goesTo 30 = .ok (.aload_n 0, 1) := by decide +kernel
theorem dX11_goesTo_31 : decode cX11_goesTo 31 = .ok (.getfield 42, 3) := by decide +kernel
theorem dX11_goesTo_34 : decode cX11_goesTo 34 = .ok (.iconst 2, 1) := by decide +kernel
theorem dX11_goesTo_35 : decode cX11_goesTo 35 = .ok (.aload_n 0, 1) := by decide +kernel
theorem dX11_goesTo_36 : decode cX11_goesTo 36 = .ok (.iload_n 2, 1) := by decide +kernel
theorem dX11_goesTo_37 : decode cX11_goesTo 37 = .ok (.iconst 3, 1) := by decide +kernel
theorem dX11_goesTo_38 : decode cX11_goesTo 38 = .ok (.invokevirtual 262, 3) := by decide +kernel
theorem dX11_goesTo_41 : decode cX11_goesTo 41 = .ok (.i2l, 1) := by decide +kernel
theorem dX11_goesTo_42 : decode cX11_goesTo 42 = .ok (.lastore, 1) := by decide +kernel
theorem dX11_goesTo_43 : decode cX11_goesTo 43 = .ok (.aload_n 0, 1) := by decide +kernel
theorem dX11_goesTo_44 : decode cX11_goesTo 44 = .ok (.getfield 42, 3) := by decide +kernel
theorem dX11_goesTo_47 : decode cX11_goesTo 47 = .ok (.iconst 3, 1) := by decide +kernel
theorem dX11_goesTo_48 : decode cX11_goesTo 48 = .ok (.aload_n 0, 1) := by decide +kernel
theorem dX11_goesTo_49 : decode cX11_goesTo 49 = .ok (.iload_n 2, 1) := by decide +kernel
theorem dX11_goesTo_50 : decode cX11_goesTo 50 = .ok (.iconst 4, 1) := by decide +kernel
theorem dX11_goesTo_51 : decode cX11_goesTo 51 = .ok (.invokevirtual 262, 3) := by decide +kernel
theorem dX11_goesTo_54 : decode cX11_goesTo 54 = .ok (.i2l, 1) := by decide +kernel
theorem dX11_goesTo_55 : decode cX11_goesTo 55 = .ok (.lastore, 1) := by decide +kernel
theorem dX11_goesTo_56 : decode cX11_goesTo 56 = .ok (.aload_n 0, 1) := by decide +kernel
theorem dX11_goesTo_57 : decode cX11_goesTo 57 = .ok (.getfield 42, 3) := by decide +kernel
theorem dX11_goesTo_60 : decode cX11_goesTo 60 = .ok (.iconst 4, 1) := by decide +kernel
theorem dX11_goesTo_61 : decode cX11_goesTo 61 = .ok (.iload 8, 2) := by decide +kernel
theorem dX11_goesTo_63 : decode cX11_goesTo 63 = .ok (.i2l, 1) := by decide +kernel
theorem dX11_goesTo_64 : decode cX11_goesTo 64 = .ok (.lastore, 1) := by decide +kernel
theorem dX11_goesTo_65 : decode cX11_goesTo 65 = .ok (.aload_n 0, 1) := by decide +kernel
theorem dX11_goesTo_66 : decode cX11_goesTo 66 = .ok (.getfield 42, 3) := by decide +kernel
theorem dX11_goesTo_69 : decode cX11_goesTo 69 = .ok (.iconst 5, 1) := by decide +kernel
theorem dX11_goesTo_70 : decode cX11_goesTo 70 = .ok (.iload 8, 2) := by decide +kernel
theorem dX11_goesTo_72 : decode cX11_goesTo 72 = .ok (.iload 4, 2) := by decide +kernel
theorem dX11_goesTo_74 : decode cX11_goesTo 74 = .ok (.invokestatic 293, 3) := by decide +kernel
theorem dX11_goesTo_77 : decode cX11_goesTo 77 = .ok (.i2l, 1) := by decide +kernel
theorem dX11_goesTo_78 : decode cX11_goesTo 78 = .ok (.lastore, 1) := by decide +kernel
theorem dX11_goesTo_79 : decode cX11_goesTo 79 = .ok (.aload_n 0, 1) := by decide +kernel
theorem dX11_goesTo_80 : decode cX11_goesTo 80 = .ok (.getfield 42, 3) := by decide +kernel
theorem dX11_goesTo_83 : decode cX11_goesTo 83 = .ok (.bipush 6, 2) := by decide +kernel
theorem dX11_goesTo_85 : decode cX11_goesTo 85 = .ok (.iload 4, 2) := by decide +kernel
theorem dX11_goesTo_87 : decode cX11_goesTo 87 = .ok (.i2l, 1) := by decide +kernel
theorem dX11_goesTo_88 : decode cX11_goesTo 88 = .ok (.lastore, 1) := by decide +kernel
theorem dX11_goesTo_89 : decode cX11_goesTo 89 = .ok (.aload_n 0, 1) := by decide +kernel
theorem dX11_goesTo_90 : decode cX11_goesTo 90 = .ok (.getfield 42, 3) := by decide +kernel
theorem dX11_goesTo_93 : decode cX11_goesTo 93 = .ok (.bipush 7, 2) := by decide +kernel
theorem dX11_goesTo_95 : decode cX11_goesTo 95 = .ok (.aload_n 0, 1) := by decide +kernel
theorem dX11_goesTo_96 : decode cX11_goesTo 96 = .ok (.iload_n 2, 1) := by decide +kernel
theorem dX11_goesTo_97 : decode cX11_goesTo 97 = .ok (.iload 4, 2) := by decide +kernel
theorem dX11_goesTo_99 : decode cX11_goesTo 99 = .ok (.iload 7, 2) := by decide +kernel
theorem dX11_goesTo_101 : decode cX11_goesTo 101 = .ok (.invokevirtual 285, 3) := by decide +kernel
theorem dX11_goesTo_104 : decode cX11_goesTo 104 = .ok (.i2l, 1) := by decide +kernel
theorem dX11_goesTo_105 : decode cX11_goesTo 105 = .ok (.lastore, 1) := by decide +kernel
theorem dX11_goesTo_106 : decode cX11_goesTo 106 = .ok (.aload_n 0, 1) := by decide +kernel
theorem dX11_goesTo_107 : decode cX11_goesTo 107 = .ok (.getfield 42, 3) := by decide +kernel
theorem dX11_goesTo_110 : decode cX11_goesTo 110 = .ok (.bipush 8, 2) := by decide +kernel
theorem dX11_goesTo_112 : decode cX11_goesTo 112 = .ok (.iload 9, 2) := by decide +kernel
theorem dX11_goesTo_114 : decode cX11_goesTo 114 = .ok (.i2l, 1) := by decide +kernel
theorem dX11_goesTo_115 : decode cX11_goesTo 115 = .ok (.lastore, 1) := by decide +kernel
theorem dX11_goesTo_116 : decode cX11_goesTo 116 = .ok (.aload_n 0, 1) := by decide +kernel
theorem dX11_goesTo_117 : decode cX11_goesTo 117 = .ok (.iload_n 1, 1) := by decide +kernel
theorem dX11_goesTo_118 : decode cX11_goesTo 118 = .ok (.iload_n 2, 1) := by decide +kernel
theorem dX11_goesTo_119 : decode cX11_goesTo 119 = .ok (.invokevirtual 296, 3) := by decide +kernel
theorem dX11_goesTo_122 : decode cX11_goesTo 122 = .ok (.istore 10, 2) := by decide +kernel
theorem dX11_goesTo_124 : decode cX11_goesTo 124 = .ok (.iload 4, 2) := by decide +kernel
theorem dX11_goesTo_126 : decode cX11_goesTo 126 = .ok (.iload 8, 2) := by decide +kernel
theorem dX11_goesTo_128 : decode cX11_goesTo 128 = .ok (.isub, 1) := by decide +kernel
theorem dX11_goesTo_129 : decode cX11_goesTo 129 = .ok (.bipush 7, 2) := by decide +kernel
theorem dX11_goesTo_131 : decode cX11_goesTo 131 = .ok (.iand, 1) := by decide +kernel
theorem dX11_goesTo_132 : decode cX11_goesTo 132 = .ok (.iconst 4, 1) := by decide +kernel
theorem dX11_goesTo_133 : decode cX11_goesTo 133 = .ok (.if_icmp .le 14, 3) := by decide +kernel
theorem dX11_goesTo_136 : decode cX11_goesTo 136 = .ok (.iload 8, 2) := by decide +kernel
theorem dX11_goesTo_138 : decode cX11_goesTo 138 = .ok (.iload 10, 2) := by decide +kernel
theorem dX11_goesTo_140 : decode cX11_goesTo 140 = .ok (.isub, 1) := by decide +kernel
theorem dX11_goesTo_141 : decode cX11_goesTo 141 = .ok (.bipush 7, 2) := by decide +kernel
theorem dX11_goesTo_143 : decode cX11_goesTo 143 = .ok (.iand, 1) := by decide +kernel
theorem dX11_goesTo_144 : decode cX11_goesTo 144 = .ok (.goto 11, 3) := by decide +kernel
theorem dX11_goesTo_147 : decode cX11_goesTo 147 = .ok (.iload 8, 2) := by decide +kernel
theorem dX11_goesTo_149 : decode cX11_goesTo 149 = .ok (.iload 10, 2) := by decide +kernel
theorem dX11_goesTo_151 : decode cX11_goesTo 151 = .ok (.iadd, 1) := by decide +kernel
theorem dX11_goesTo_152 : decode cX11_goesTo 152 = .ok (.bipush 7, 2) := by decide +kernel
theorem dX11_goesTo_154 : decode cX11_goesTo 154 = .ok (.iand, 1) := by decide +kernel
theorem dX11_goesTo_155 : decode cX11_goesTo 155 = .ok (.istore 8, 2) := by decide +kernel
theorem dX11_goesTo_157 : decode cX11_goesTo 157 = .ok (.iinc 9 1, 3) := by decide +kernel
theorem dX11_goesTo_160 : decode cX11_goesTo 160 = .ok (.goto (-154), 3) := by decide +kernel
theorem dX11_goesTo_163 : decode cX11_goesTo 163 = .ok (.iload 8, 2) := by decide +kernel
theorem dX11_goesTo_165 : decode cX11_goesTo 165 = .ok (.ireturn, 1) := by decide +kernel
theorem dX11_canBlow_0 : decode cX11_canBlow 0 = .ok (.aload_n 0, 1) := by decide +kernel
theorem dX11_canBlow_1 : decode cX11_canBlow 1 = .ok (.getfield 45, 3) := by decide +kernel
theorem dX11_canBlow_4 : decode cX11_canBlow 4 = .ok (.iconst 0, 1) := by decide +kernel
theorem dX11_canBlow_5 : decode cX11_canBlow 5 = .ok (.iaload, 1) := by decide +kernel
theorem dX11_canBlow_6 : decode cX11_canBlow 6 = .ok (.ifCond .le 34, 3) := by decide +kernel
theorem dX11_canBlow_9 : decode cX11_canBlow 9 = .ok (.aload_n 0, 1) := by decide +kernel
theorem dX11_canBlow_10 : decode cX11_canBlow 10 = .ok (.iload_n 1, 1) := by decide +kernel
theorem dX11_canBlow_11 : decode cX11_canBlow 11 = .ok (.invokevirtual 299, 3) := by decide +kernel
theorem dX11_canBlow_14 : decode cX11_canBlow 14 = .ok (.ifCond .eq 26, 3) := by decide +kernel
theorem dX11_canBlow_17 : decode cX11_canBlow 17 = .ok (.iload_n 2, 1) := by decide +kernel
theorem dX11_canBlow_18 : decode cX11_canBlow 18 = .ok (.invokestatic 276, 3) := by decide +kernel
theorem dX11_canBlow_21 : decode cX11_canBlow 21 = .ok (.ifCond .eq 19, 3) := by decide +kernel
theorem dX11_canBlow_24 : decode cX11_canBlow 24 = .ok (.iload_n 3, 1) := by decide +kernel
theorem dX11_canBlow_25 : decode cX11_canBlow 25 = .ok (.i2l, 1) := by decide +kernel
theorem dX11_canBlow_26 : decode cX11_canBlow 26 = .ok (.lconst 0, 1) := by decide +kernel
theorem dX11_canBlow_27 : decode cX11_canBlow 27 = .ok (.ldc2_w 302, 3) := by decide +kernel
theorem dX11_canBlow_30 : decode cX11_canBlow 30 = .ok (.invokestatic 109, 3) := by decide +kernel
theorem dX11_canBlow_33 : decode cX11_canBlow 33 = .ok (.ifCond .eq 7, 3) := by decide +kernel
theorem dX11_canBlow_36 : decode cX11_canBlow 36 = .ok (.iconst 1, 1) := by decide +kernel
theorem dX11_canBlow_37 : decode cX11_canBlow 37 = .ok (.goto 4, 3) := by decide +kernel
theorem dX11_canBlow_40 : decode cX11_canBlow 40 = .ok (.iconst 0, 1) := by decide +kernel
theorem dX11_canBlow_41 : decode cX11_canBlow 41 = .ok (.ireturn, 1) := by decide +kernel
theorem dX11_blow_0 : decode cX11_blow 0 = .ok (.aload_n 0, 1) := by decide +kernel
theorem dX11_blow_1 : decode cX11_blow 1 = .ok (.iload_n 1, 1) := by decide +kernel
theorem dX11_blow_2 : decode cX11_blow 2 = .ok (.iload_n 2, 1) := by decide +kernel
theorem dX11_blow_3 : decode cX11_blow 3 = .ok (.iload_n 3, 1) := by decide +kernel
theorem dX11_blow_4 : decode cX11_blow 4 = .ok (.invokevirtual 304, 3) := by decide +kernel
theorem dX11_blow_7 : decode cX11_blow 7 = .ok (.ifCond .eq 7, 3) := by decide +kernel
theorem dX11_blow_10 : decode cX11_blow 10 = .ok (.iload_n 3, 1) := by decide +kernel
theorem dX11_blow_11 : decode cX11_blow 11 = .ok (.ifCond .ne 5, 3) := by decide +kernel
theorem dX11_blow_14 : decode cX11_blow 14 = .ok (.iconst (-1), 1) := by decide +kernel
theorem dX11_blow_15 : decode cX11_blow 15 = .ok (.ireturn, 1) := by decide +kernel
theorem dX11_blow_16 : decode cX11_blow 16 = .ok (.iconst 0, 1) := by decide +kernel
theorem dX11_blow_17 : decode cX11_blow 17 = .ok (.istore 4, 2) := by decide +kernel
theorem dX11_blow_19 : decode cX11_blow 19 = .ok (.iconst 0, 1) := by decide +kernel
theorem dX11_blow_20 : decode cX11_blow 20 = .ok (.istore 5, 2) := by decide +kernel
theorem dX11_blow_22 : decode cX11_blow 22 = .ok (.iload 5, 2) := by decide +kernel
theorem dX11_blow_24 : decode cX11_blow 24 = .ok (.aload_n 0, 1) := by decide +kernel
theorem dX11_blow_25 : decode cX11_blow 25 = .ok (.getfield 45, 3) := by decide +kernel
theorem dX11_blow_28 : decode cX11_blow 28 = .ok (.iconst 0, 1) := by decide +kernel
theorem dX11_blow_29 : decode cX11_blow 29 = .ok (.iaload, 1) := by decide +kernel
theorem dX11_blow_30 : decode cX11_blow 30 = .ok (.if_icmp .ge 73, 3) := by decide +kernel
theorem dX11_blow_33 : decode cX11_blow 33 = .ok (.aload_n 0, 1) := by decide +kernel
theorem dX11_blow_34 : decode cX11_blow 34 = .ok (.iload_n 1, 1) := by decide +kernel
theorem dX11_blow_35 : decode cX11_blow 35 = .ok (.iload 5, 2) := by decide +kernel
theorem dX11_blow_37 : decode cX11_blow 37 = .ok (.aload_n 0, 1) := by decide +kernel
theorem dX11_blow_38 : decode cX11_blow 38 = .ok (.iload 5, 2) := by decide +kernel
theorem dX11_blow_40 : decode cX11_blow 40 = .ok (.iconst 5, 1) := by decide +kernel
theorem dX11_blow_41 : decode cX11_blow 41 = .ok (.invokevirtual 262, 3) := by decide +kernel
theorem dX11_blow_44 : decode cX11_blow 44 = .ok (.iload_n 2, 1) := by decide +kernel
theorem dX11_blow_45 : decode cX11_blow 45 = .ok (.iload_n 3, 1) := by decide +kernel
theorem dX11_blow_46 : decode cX11_blow 46 = .ok (.aload_n 0, 1) := by decide +kernel
theorem dX11_blow_47 : decode cX11_blow 47 = .ok (.iload 5, 2) := by decide +kernel
theorem dX11_blow_49 : decode cX11_blow 49 = .ok (.iconst 2, 1) := by decide +kernel
theorem dX11_blow_50 : decode cX11_blow 50 = .ok (.invokevirtual 262, 3) := by decide +kernel
theorem dX11_blow_53 : decode cX11_blow 53 = .ok (.iconst (-1), 1) := by decide +kernel
theorem dX11_blow_54 : decode cX11_blow 54 = .ok (.invokevirtual 308, 3) := by decide +kernel
theorem dX11_blow_57 : decode cX11_blow 57 = .ok (.istore 6, 2) := by decide +kernel
theorem dX11_blow_59 : decode cX11_blow 59 = .ok (.iload 4, 2) := by decide +kernel
theorem dX11_blow_61 : decode cX11_blow 61 = .ok (.iload 6, 2) := by decide +kernel
theorem dX11_blow_63 : decode cX11_blow 63 = .ok (.aload_n 0, 1) := by decide +kernel
theorem dX11_blow_64 : decode cX11_blow 64 = .ok (.iload 5, 2) := by decide +kernel
theorem dX11_blow_66 : decode cX11_blow 66 = .ok (.iconst 5, 1) := by decide +kernel
theorem dX11_blow_67 : decode cX11_blow 67 = .ok (.invokevirtual 262, 3) := by decide +kernel
theorem dX11_blow_70 : decode cX11_blow 70 = .ok (.if_icmp .ne 7, 3) := by decide +kernel
theorem dX11_blow_73 : decode cX11_blow 73 = .ok (.iconst 0, 1) := by decide +kernel
theorem dX11_blow_74 : decode cX11_blow 74 = .ok (.goto 4, 3) := by decide +kernel
theorem dX11_blow_77 : decode cX11_blow 77 = .ok (.iconst 1, 1) := by decide +kernel
theorem dX11_blow_78 : decode cX11_blow 78 = .ok (.iadd, 1) := by decide +kernel
theorem dX11_blow_79 : decode cX11_blow 79 = .ok (.istore 4, 2) := by decide +kernel
theorem dX11_blow_81 : decode cX11_blow 81 = .ok (.aload_n 0, 1) := by decide +kernel
theorem dX11_blow_82 : decode cX11_blow 82 = .ok (.getfield 45, 3) := by decide +kernel
theorem dX11_blow_85 : decode cX11_blow 85 = .ok (.iconst 4, 1) := by decide +kernel
theorem dX11_blow_86 : decode cX11_blow 86 = .ok (.bipush 7, 2) := by decide +kernel
theorem dX11_blow_88 : decode cX11_blow 88 = .ok (.iload 5, 2) := by decide +kernel
theorem dX11_blow_90 : decode cX11_blow 90 = .ok (.imul, 1) := by decide +kernel
theorem dX11_blow_91 : decode cX11_blow 91 = .ok (.iadd, 1) := by decide +kernel
theorem dX11_blow_92 : decode cX11_blow 92 = .ok (.iconst 5, 1) := by decide +kernel
theorem dX11_blow_93 : decode cX11_blow 93 = .ok (.iadd, 1) := by decide +kernel
theorem dX11_blow_94 : decode cX11_blow 94 = .ok (.iload 6, 2) := by decide +kernel
theorem dX11_blow_96 : decode cX11_blow 96 = .ok (.iastore, 1) := by decide +kernel
theorem dX11_blow_97 : decode cX11_blow 97 = .ok (.iinc 5 1, 3) := by decide +kernel
theorem dX11_blow_100 : decode cX11_blow 100 = .ok (.goto (-78), 3) := by decide +kernel
theorem dX11_blow_103 : decode cX11_blow 103 = .ok (.iload 4, 2) := by decide +kernel
theorem dX11_blow_105 : decode cX11_blow 105 = .ok (.ireturn, 1) := by decide +kernel
theorem dX11_bendCost_0 : decode cX11_bendCost 0 = .ok (.iload_n 2, 1) := by decide +kernel
theorem dX11_bendCost_1 : decode cX11_bendCost 1 = .ok (.iload_n 3, 1) := by decide +kernel
theorem dX11_bendCost_2 : decode cX11_bendCost 2 = .ok (.invokestatic 293, 3) := by decide +kernel
theorem dX11_bendCost_5 : decode cX11_bendCost 5 = .ok (.aload_n 0, 1) := by decide +kernel
theorem dX11_bendCost_6 : decode cX11_bendCost 6 = .ok (.iload_n 1, 1) := by decide +kernel
theorem dX11_bendCost_7 : decode cX11_bendCost 7 = .ok (.iconst 2, 1) := by decide +kernel
theorem dX11_bendCost_8 : decode cX11_bendCost 8 = .ok (.invokevirtual 262, 3) := by decide +kernel
theorem dX11_bendCost_11 : decode cX11_bendCost 11 = .ok (.iconst 1, 1) := by decide +kernel
theorem dX11_bendCost_12 : decode cX11_bendCost 12 = .ok (.iadd, 1) := by decide +kernel
theorem dX11_bendCost_13 : decode cX11_bendCost 13 = .ok (.imul, 1) := by decide +kernel
theorem dX11_bendCost_14 : decode cX11_bendCost 14 = .ok (.ireturn, 1) := by decide +kernel
theorem dX11_bend_0 : decode cX11_bend 0 = .ok (.aload_n 0, 1) := by decide +kernel
theorem dX11_bend_1 : decode cX11_bend 1 = .ok (.iload_n 1, 1) := by decide +kernel
theorem dX11_bend_2 : decode cX11_bend 2 = .ok (.invokevirtual 257, 3) := by decide +kernel
theorem dX11_bend_5 : decode cX11_bend 5 = .ok (.ifCond .eq 10, 3) := by decide +kernel
theorem dX11_bend_8 : decode cX11_bend 8 = .ok (.iload_n 2, 1) := by decide +kernel
theorem dX11_bend_9 : decode cX11_bend 9 = .ok (.invokestatic 276, 3) := by decide +kernel
theorem dX11_bend_12 : decode cX11_bend 12 = .ok (.ifCond .ne 5, 3) := by decide +kernel
theorem dX11_bend_15 : decode cX11_bend 15 = .ok (.iconst (-1), 1) := by decide +kernel
theorem dX11_bend_16 : decode cX11_bend 16 = .ok (.ireturn, 1) := by decide +kernel
theorem dX11_bend_17 : decode cX11_bend 17 = .ok (.aload_n 0, 1) := by decide +kernel
theorem dX11_bend_18 : decode cX11_bend 18 = .ok (.iload_n 1, 1) := by decide +kernel
theorem dX11_bend_19 : decode cX11_bend 19 = .ok (.aload_n 0, 1) := by decide +kernel
theorem dX11_bend_20 : decode cX11_bend 20 = .ok (.iload_n 1, 1) := by decide +kernel
theorem dX11_bend_21 : decode cX11_bend 21 = .ok (.iconst 5, 1) := by decide +kernel
theorem dX11_bend_22 : decode cX11_bend 22 = .ok (.invokevirtual 262, 3) := by decide +kernel
theorem dX11_bend_25 : decode cX11_bend 25 = .ok (.iload_n 2, 1) := by decide +kernel
theorem dX11_bend_26 : decode cX11_bend 26 = .ok (.invokevirtual 312, 3) := by decide +kernel
theorem dX11_bend_29 : decode cX11_bend 29 = .ok (.istore_n 3, 1) := by decide +kernel
theorem dX11_bend_30 : decode cX11_bend 30 = .ok (.aload_n 0, 1) := by decide +kernel
theorem dX11_bend_31 : decode cX11_bend 31 = .ok (.getfield 45, 3) := by decide +kernel
theorem dX11_bend_34 : decode cX11_bend 34 = .ok (.iconst 4, 1) := by decide +kernel
theorem dX11_bend_35 : decode cX11_bend 35 = .ok (.bipush 7, 2) := by decide +kernel
theorem dX11_bend_37 : decode cX11_bend 37 = .ok (.iload_n 1, 1) := by decide +kernel
theorem dX11_bend_38 : decode cX11_bend 38 = .ok (.imul, 1) := by decide +kernel
theorem dX11_bend_39 : decode cX11_bend 39 = .ok (.iadd, 1) := by decide +kernel
theorem dX11_bend_40 : decode cX11_bend 40 = .ok (.iconst 5, 1) := by decide +kernel
theorem dX11_bend_41 : decode cX11_bend 41 = .ok (.iadd, 1) := by decide +kernel
theorem dX11_bend_42 : decode cX11_bend 42 = .ok (.iload_n 2, 1) := by decide +kernel
theorem dX11_bend_43 : decode cX11_bend 43 = .ok (.iastore, 1) := by decide +kernel
theorem dX11_bend_44 : decode cX11_bend 44 = .ok (.iload_n 3, 1) := by decide +kernel
theorem dX11_bend_45 : decode cX11_bend 45 = .ok (.ireturn, 1) := by decide +kernel
theorem dX11_oil_0 : decode cX11_oil 0 = .ok (.aload_n 0, 1) := by decide +kernel
theorem dX11_oil_1 : decode cX11_oil 1 = .ok (.iload_n 1, 1) := by decide +kernel
theorem dX11_oil_2 : decode cX11_oil 2 = .ok (.iconst 0, 1) := by decide +kernel
theorem dX11_oil_3 : decode cX11_oil 3 = .ok (.invokevirtual 315, 3) := by decide +kernel
theorem dX11_oil_6 : decode cX11_oil 6 = .ok (.ireturn, 1) := by decide +kernel
theorem dX11_rusts_0 : decode cX11_rusts 0 = .ok (.aload_n 0, 1) := by decide +kernel
theorem dX11_rusts_1 : decode cX11_rusts 1 = .ok (.iload_n 1, 1) := by decide +kernel
theorem dX11_rusts_2 : decode cX11_rusts 2 = .ok (.invokevirtual 257, 3) := by decide +kernel
theorem dX11_rusts_5 : decode cX11_rusts 5 = .ok (.ifCond .eq 15, 3) := by decide +kernel
theorem dX11_rusts_8 : decode cX11_rusts 8 = .ok (.iload_n 2, 1) := by decide +kernel
theorem dX11_rusts_9 : decode cX11_rusts 9 = .ok (.i2l, 1) := by decide +kernel
theorem dX11_rusts_10 : decode cX11_rusts 10 = .ok (.lconst 0, 1) := by decide +kernel
theorem dX11_rusts_11 : decode cX11_rusts 11 = .ok (.ldc2_w 318, 3) := by decide +kernel
theorem dX11_rusts_14 : decode cX11_rusts 14 = .ok (.invokestatic 109, 3) := by decide +kernel
theorem dX11_rusts_17 : decode cX11_rusts 17 = .ok (.ifCond .ne 5, 3) := by decide +kernel
theorem dX11_rusts_20 : decode cX11_rusts 20 = .ok (.iconst (-1), 1) := by decide +kernel
theorem dX11_rusts_21 : decode cX11_rusts 21 = .ok (.ireturn, 1) := by decide +kernel
theorem dX11_rusts_22 : decode cX11_rusts 22 = .ok (.aload_n 0, 1) := by decide +kernel
theorem dX11_rusts_23 : decode cX11_rusts 23 = .ok (.iload_n 1, 1) := by decide +kernel
theorem dX11_rusts_24 : decode cX11_rusts 24 = .ok (.iconst 2, 1) := by decide +kernel
theorem dX11_rusts_25 : decode cX11_rusts 25 = .ok (.invokevirtual 262, 3) := by decide +kernel
theorem dX11_rusts_28 : decode cX11_rusts 28 = .ok (.istore_n 3, 1) := by decide +kernel
theorem dX11_rusts_29 : decode cX11_rusts 29 = .ok (.aload_n 0, 1) := by decide +kernel
theorem dX11_rusts_30 : decode cX11_rusts 30 = .ok (.getfield 45, 3) := by decide +kernel
theorem dX11_rusts_33 : decode cX11_rusts 33 = .ok (.iconst 4, 1) := by decide +kernel
theorem dX11_rusts_34 : decode cX11_rusts 34 = .ok (.bipush 7, 2) := by decide +kernel
theorem dX11_rusts_36 : decode cX11_rusts 36 = .ok (.iload_n 1, 1) := by decide +kernel
theorem dX11_rusts_37 : decode cX11_rusts 37 = .ok (.imul, 1) := by decide +kernel
theorem dX11_rusts_38 : decode cX11_rusts 38 = .ok (.iadd, 1) := by decide +kernel
theorem dX11_rusts_39 : decode cX11_rusts 39 = .ok (.iconst 2, 1) := by decide +kernel
theorem dX11_rusts_40 : decode cX11_rusts 40 = .ok (.iadd, 1) := by decide +kernel
theorem dX11_rusts_41 : decode cX11_rusts 41 = .ok (.iload_n 2, 1) := by decide +kernel
theorem dX11_rusts_42 : decode cX11_rusts 42 = .ok (.iastore, 1) := by decide +kernel
theorem dX11_rusts_43 : decode cX11_rusts 43 = .ok (.iload_n 3, 1) := by decide +kernel
theorem dX11_rusts_44 : decode cX11_rusts 44 = .ok (.ireturn, 1) := by decide +kernel
theorem dX11_fell_0 : decode cX11_fell 0 = .ok (.aload_n 0, 1) := by decide +kernel
theorem dX11_fell_1 : decode cX11_fell 1 = .ok (.iload_n 1, 1) := by decide +kernel
theorem dX11_fell_2 : decode cX11_fell 2 = .ok (.invokevirtual 266, 3) := by decide +kernel
theorem dX11_fell_5 : decode cX11_fell 5 = .ok (.ifCond .eq 22, 3) := by decide +kernel
theorem dX11_fell_8 : decode cX11_fell 8 = .ok (.aload_n 0, 1) := by decide +kernel
theorem dX11_fell_9 : decode cX11_fell 9 = .ok (.iload_n 1, 1) := by decide +kernel
theorem dX11_fell_10 : decode cX11_fell 10 = .ok (.iconst 2, 1) := by decide +kernel
theorem dX11_fell_11 : decode cX11_fell 11 = .ok (.invokevirtual 271, 3) := by decide +kernel
theorem dX11_fell_14 : decode cX11_fell 14 = .ok (.iconst 1, 1) := by decide +kernel
theorem dX11_fell_15 : decode cX11_fell 15 = .ok (.if_icmp .ne 7, 3) := by decide +kernel
theorem dX11_fell_18 : decode cX11_fell 18 = .ok (.iconst 1, 1) := by decide +kernel
theorem dX11_fell_19 : decode cX11_fell 19 = .ok (.goto 4, 3) := by decide +kernel
theorem dX11_fell_22 : decode cX11_fell 22 = .ok (.iconst 0, 1) := by decide +kernel
theorem dX11_fell_23 : decode cX11_fell 23 = .ok (.iload_n 2, 1) := by decide +kernel
theorem dX11_fell_24 : decode cX11_fell 24 = .ok (.if_icmp .ne 5, 3) := by decide +kernel
theorem dX11_fell_27 : decode cX11_fell 27 = .ok (.iconst 0, 1) := by decide +kernel
theorem dX11_fell_28 : decode cX11_fell 28 = .ok (.ireturn, 1) := by decide +kernel
theorem dX11_fell_29 : decode cX11_fell 29 = .ok (.aload_n 0, 1) := by decide +kernel
theorem dX11_fell_30 : decode cX11_fell 30 = .ok (.getfield 45, 3) := by decide +kernel
theorem dX11_fell_33 : decode cX11_fell 33 = .ok (.bipush 88, 2) := by decide +kernel
theorem dX11_fell_35 : decode cX11_fell 35 = .ok (.iconst 3, 1) := by decide +kernel
theorem dX11_fell_36 : decode cX11_fell 36 = .ok (.iload_n 1, 1) := by decide +kernel
theorem dX11_fell_37 : decode cX11_fell 37 = .ok (.imul, 1) := by decide +kernel
theorem dX11_fell_38 : decode cX11_fell 38 = .ok (.iadd, 1) := by decide +kernel
theorem dX11_fell_39 : decode cX11_fell 39 = .ok (.iconst 2, 1) := by decide +kernel
theorem dX11_fell_40 : decode cX11_fell 40 = .ok (.iadd, 1) := by decide +kernel
theorem dX11_fell_41 : decode cX11_fell 41 = .ok (.iload_n 2, 1) := by decide +kernel
theorem dX11_fell_42 : decode cX11_fell 42 = .ok (.ifCond .eq 7, 3) := by decide +kernel
theorem dX11_fell_45 : decode cX11_fell 45 = .ok (.iconst 1, 1) := by decide +kernel
theorem dX11_fell_46 : decode cX11_fell 46 = .ok (.goto 4, 3) := by decide +kernel
theorem dX11_fell_49 : decode cX11_fell 49 = .ok (.iconst 0, 1) := by decide +kernel
theorem dX11_fell_50 : decode cX11_fell 50 = .ok (.iastore, 1) := by decide +kernel
theorem dX11_fell_51 : decode cX11_fell 51 = .ok (.iconst 1, 1) := by decide +kernel
theorem dX11_fell_52 : decode cX11_fell 52 = .ok (.ireturn, 1) := by decide +kernel
theorem dX11_morning_0 : decode cX11_morning 0 = .ok (.iconst 0, 1) := by decide +kernel
theorem dX11_morning_1 : decode cX11_morning 1 = .ok (.istore_n 1, 1) := by decide +kernel
theorem dX11_morning_2 : decode cX11_morning 2 = .ok (.iconst 0, 1) := by decide +kernel
theorem dX11_morning_3 : decode cX11_morning 3 = .ok (.istore_n 2, 1) := by decide +kernel
theorem dX11_morning_4 : decode cX11_morning 4 = .ok (.iload_n 2, 1) := by decide +kernel
theorem dX11_morning_5 : decode cX11_morning 5 = .ok (.aload_n 0, 1) := by decide +kernel
theorem dX11_morning_6 : decode cX11_morning 6 = .ok (.getfield 45, 3) := by decide +kernel
theorem dX11_morning_9 : decode cX11_morning 9 = .ok (.iconst 0, 1) := by decide +kernel
theorem dX11_morning_10 : decode cX11_morning 10 = .ok (.iaload, 1) := by decide +kernel
theorem dX11_morning_11 : decode cX11_morning 11 = .ok (.if_icmp .ge 53, 3) := by decide +kernel
theorem dX11_morning_14 : decode cX11_morning 14 = .ok (.iload_n 1, 1) := by decide +kernel
theorem dX11_morning_15 : decode cX11_morning 15 = .ok (.aload_n 0, 1) := by decide +kernel
theorem dX11_morning_16 : decode cX11_morning 16 = .ok (.iload_n 2, 1) := by decide +kernel
theorem dX11_morning_17 : decode cX11_morning 17 = .ok (.iconst 5, 1) := by decide +kernel
theorem dX11_morning_18 : decode cX11_morning 18 = .ok (.invokevirtual 262, 3) := by decide +kernel
theorem dX11_morning_21 : decode cX11_morning 21 = .ok (.aload_n 0, 1) := by decide +kernel
theorem dX11_morning_22 : decode cX11_morning 22 = .ok (.iload_n 2, 1) := by decide +kernel
theorem dX11_morning_23 : decode cX11_morning 23 = .ok (.bipush 6, 2) := by decide +kernel
theorem dX11_morning_25 : decode cX11_morning 25 = .ok (.invokevirtual 262, 3) := by decide +kernel
theorem dX11_morning_28 : decode cX11_morning 28 = .ok (.if_icmp .ne 7, 3) := by decide +kernel
theorem dX11_morning_31 : decode cX11_morning 31 = .ok (.iconst 0, 1) := by decide +kernel
theorem dX11_morning_32 : decode cX11_morning 32 = .ok (.goto 4, 3) := by decide +kernel
theorem dX11_morning_35 : decode cX11_morning 35 = .ok (.iconst 1, 1) := by decide +kernel
theorem dX11_morning_36 : decode cX11_morning 36 = .ok (.iadd, 1) := by decide +kernel
theorem dX11_morning_37 : decode cX11_morning 37 = .ok (.istore_n 1, 1) := by decide +kernel
theorem dX11_morning_38 : decode cX11_morning 38 = .ok (.aload_n 0, 1) := by decide +kernel
theorem dX11_morning_39 : decode cX11_morning 39 = .ok (.getfield 45, 3) := by decide +kernel
theorem dX11_morning_42 : decode cX11_morning 42 = .ok (.iconst 4, 1) := by decide +kernel
theorem dX11_morning_43 : decode cX11_morning 43 = .ok (.bipush 7, 2) := by decide +kernel
theorem dX11_morning_45 : decode cX11_morning 45 = .ok (.iload_n 2, 1) := by decide +kernel
theorem dX11_morning_46 : decode cX11_morning 46 = .ok (.imul, 1) := by decide +kernel
theorem dX11_morning_47 : decode cX11_morning 47 = .ok (.iadd, 1) := by decide +kernel
theorem dX11_morning_48 : decode cX11_morning 48 = .ok (.bipush 6, 2) := by decide +kernel
theorem dX11_morning_50 : decode cX11_morning 50 = .ok (.iadd, 1) := by decide +kernel
theorem dX11_morning_51 : decode cX11_morning 51 = .ok (.aload_n 0, 1) := by decide +kernel
theorem dX11_morning_52 : decode cX11_morning 52 = .ok (.iload_n 2, 1) := by decide +kernel
theorem dX11_morning_53 : decode cX11_morning 53 = .ok (.iconst 5, 1) := by decide +kernel
theorem dX11_morning_54 : decode cX11_morning 54 = .ok (.invokevirtual 262, 3) := by decide +kernel
theorem dX11_morning_57 : decode cX11_morning 57 = .ok (.iastore, 1) := by decide +kernel
theorem dX11_morning_58 : decode cX11_morning 58 = .ok (.iinc 2 1, 3) := by decide +kernel
theorem dX11_morning_61 : decode cX11_morning 61 = .ok (.goto (-57), 3) := by decide +kernel
theorem dX11_morning_64 : decode cX11_morning 64 = .ok (.iload_n 1, 1) := by decide +kernel
theorem dX11_morning_65 : decode cX11_morning 65 = .ok (.ireturn, 1) := by decide +kernel
theorem dX11_asTheyAre_0 : decode cX11_asTheyAre 0 = .ok (.iconst 0, 1) := by decide +kernel
theorem dX11_asTheyAre_1 : decode cX11_asTheyAre 1 = .ok (.istore_n 1, 1) := by decide +kernel
theorem dX11_asTheyAre_2 : decode cX11_asTheyAre 2 = .ok (.iload_n 1, 1) := by decide +kernel
theorem dX11_asTheyAre_3 : decode cX11_asTheyAre 3 = .ok (.aload_n 0, 1) := by decide +kernel
theorem dX11_asTheyAre_4 : decode cX11_asTheyAre 4 = .ok (.getfield 45, 3) := by decide +kernel
theorem dX11_asTheyAre_7 : decode cX11_asTheyAre 7 = .ok (.iconst 0, 1) := by decide +kernel
theorem dX11_asTheyAre_8 : decode cX11_asTheyAre 8 = .ok (.iaload, 1) := by decide +kernel
theorem dX11_asTheyAre_9 : decode cX11_asTheyAre 9 = .ok (.if_icmp .ge 21, 3) := by decide +kernel
theorem dX11_asTheyAre_12 : decode cX11_asTheyAre 12 = .ok (.aload_n 0, 1) := by decide +kernel
theorem dX11_asTheyAre_13 : decode cX11_asTheyAre 13 = .ok (.getfield 48, 3) := by decide +kernel
theorem dX11_asTheyAre_16 : decode cX11_asTheyAre 16 = .ok (.iload_n 1, 1) := by decide +kernel
theorem dX11_asTheyAre_17 : decode cX11_asTheyAre 17 = .ok (.aload_n 0, 1) := by decide +kernel
theorem dX11_asTheyAre_18 : decode cX11_asTheyAre 18 = .ok (.iload_n 1, 1) := by decide +kernel
theorem dX11_asTheyAre_19 : decode cX11_asTheyAre 19 = .ok (.iconst 5, 1) := by decide +kernel
theorem dX11_asTheyAre_20 : decode cX11_asTheyAre 20 = .ok (.invokevirtual 262, 3) := by decide +kernel
theorem dX11_asTheyAre_23 : decode cX11_asTheyAre 23 = .ok (.iastore, 1) := by decide +kernel
theorem dX11_asTheyAre_24 : decode cX11_asTheyAre 24 = .ok (.iinc 1 1, 3) := by decide +kernel
theorem dX11_asTheyAre_27 : decode cX11_asTheyAre 27 = .ok (.goto (-25), 3) := by decide +kernel
theorem dX11_asTheyAre_30 : decode cX11_asTheyAre 30 = .ok (.return_, 1) := by decide +kernel
theorem dX11_counts_0 : decode cX11_counts 0 = .ok (.iconst 0, 1) := by decide +kernel
theorem dX11_counts_1 : decode cX11_counts 1 = .ok (.istore_n 2, 1) := by decide +kernel
theorem dX11_counts_2 : decode cX11_counts 2 = .ok (.iload_n 2, 1) := by decide +kernel
theorem dX11_counts_3 : decode cX11_counts 3 = .ok (.bipush 8, 2) := by decide +kernel
theorem dX11_counts_5 : decode cX11_counts 5 = .ok (.if_icmp .ge 16, 3) := by decide +kernel
theorem dX11_counts_8 : decode cX11_counts 8 = .ok (.aload_n 0, 1) := by decide +kernel
theorem dX11_counts_9 : decode cX11_counts 9 = .ok (.getfield 51, 3) := by decide +kernel
theorem dX11_counts_12 : decode cX11_counts 12 = .ok (.iload_n 2, 1) := by decide +kernel
theorem dX11_counts_13 : decode cX11_counts 13 = .ok (.iconst 0, 1) := by decide +kernel
theorem dX11_counts_14 : decode cX11_counts 14 = .ok (.iastore, 1) := by decide +kernel
theorem dX11_counts_15 : decode cX11_counts 15 = .ok (.iinc 2 1, 3) := by decide +kernel
theorem dX11_counts_18 : decode cX11_counts 18 = .ok (.goto (-16), 3) := by decide +kernel
theorem dX11_counts_21 : decode cX11_counts 21 = .ok (.iconst 0, 1) := by decide +kernel
theorem dX11_counts_22 : decode cX11_counts 22 = .ok (.istore_n 2, 1) := by decide +kernel
theorem dX11_counts_23 : decode cX11_counts 23 = .ok (.iload_n 2, 1) := by decide +kernel
theorem dX11_counts_24 : decode cX11_counts 24 = .ok (.aload_n 0, 1) := by decide +kernel
theorem dX11_counts_25 : decode cX11_counts 25 = .ok (.getfield 45, 3) := by decide +kernel
theorem dX11_counts_28 : decode cX11_counts 28 = .ok (.iconst 0, 1) := by decide +kernel
theorem dX11_counts_29 : decode cX11_counts 29 = .ok (.iaload, 1) := by decide +kernel
theorem dX11_counts_30 : decode cX11_counts 30 = .ok (.if_icmp .ge 39, 3) := by decide +kernel
theorem dX11_counts_33 : decode cX11_counts 33 = .ok (.aload_n 0, 1) := by decide +kernel
theorem dX11_counts_34 : decode cX11_counts 34 = .ok (.getfield 51, 3) := by decide +kernel
theorem dX11_counts_37 : decode cX11_counts 37 = .ok (.aload_n 0, 1) := by decide +kernel
theorem dX11_counts_38 : decode cX11_counts 38 = .ok (.getfield 48, 3) := by decide +kernel
theorem dX11_counts_41 : decode cX11_counts 41 = .ok (.iload_n 2, 1) := by decide +kernel
theorem dX11_counts_42 : decode cX11_counts 42 = .ok (.iaload, 1) := by decide +kernel
theorem dX11_counts_43 : decode cX11_counts 43 = .ok (.dup2, 1) := by decide +kernel
theorem dX11_counts_44 : decode cX11_counts 44 = .ok (.iaload, 1) := by decide +kernel
theorem dX11_counts_45 : decode cX11_counts 45 = .ok (.iload_n 1, 1) := by decide +kernel
theorem dX11_counts_46 : decode cX11_counts 46 = .ok (.ifCond .eq 14, 3) := by decide +kernel
theorem dX11_counts_49 : decode cX11_counts 49 = .ok (.aload_n 0, 1) := by decide +kernel
theorem dX11_counts_50 : decode cX11_counts 50 = .ok (.iload_n 2, 1) := by decide +kernel
theorem dX11_counts_51 : decode cX11_counts 51 = .ok (.iconst 3, 1) := by decide +kernel
theorem dX11_counts_52 : decode cX11_counts 52 = .ok (.invokevirtual 262, 3) := by decide +kernel
theorem dX11_counts_55 : decode cX11_counts 55 = .ok (.iconst 1, 1) := by decide +kernel
theorem dX11_counts_56 : decode cX11_counts 56 = .ok (.iadd, 1) := by decide +kernel
theorem dX11_counts_57 : decode cX11_counts 57 = .ok (.goto 4, 3) := by decide +kernel
theorem dX11_counts_60 : decode cX11_counts 60 = .ok (.iconst 1, 1) := by decide +kernel
theorem dX11_counts_61 : decode cX11_counts 61 = .ok (.iadd, 1) := by decide +kernel
theorem dX11_counts_62 : decode cX11_counts 62 = .ok (.iastore, 1) := by decide +kernel
theorem dX11_counts_63 : decode cX11_counts 63 = .ok (.iinc 2 1, 3) := by decide +kernel
theorem dX11_counts_66 : decode cX11_counts 66 = .ok (.goto (-43), 3) := by decide +kernel
theorem dX11_counts_69 : decode cX11_counts 69 = .ok (.return_, 1) := by decide +kernel
theorem dX11_greatest_0 : decode cX11_greatest 0 = .ok (.iconst 0, 1) := by decide +kernel
theorem dX11_greatest_1 : decode cX11_greatest 1 = .ok (.istore_n 1, 1) := by decide +kernel
theorem dX11_greatest_2 : decode cX11_greatest 2 = .ok (.iconst 0, 1) := by decide +kernel
theorem dX11_greatest_3 : decode cX11_greatest 3 = .ok (.istore_n 2, 1) := by decide +kernel
theorem dX11_greatest_4 : decode cX11_greatest 4 = .ok (.iload_n 2, 1) := by decide +kernel
theorem dX11_greatest_5 : decode cX11_greatest 5 = .ok (.bipush 8, 2) := by decide +kernel
theorem dX11_greatest_7 : decode cX11_greatest 7 = .ok (.if_icmp .ge 30, 3) := by decide +kernel
theorem dX11_greatest_10 : decode cX11_greatest 10 = .ok (.aload_n 0, 1) := by decide +kernel
theorem dX11_greatest_11 : decode cX11_greatest 11 = .ok (.getfield 51, 3) := by decide +kernel
theorem dX11_greatest_14 : decode cX11_greatest 14 = .ok (.iload_n 2, 1) := by decide +kernel
theorem dX11_greatest_15 : decode cX11_greatest 15 = .ok (.iaload, 1) := by decide +kernel
theorem dX11_greatest_16 : decode cX11_greatest 16 = .ok (.iload_n 1, 1) := by decide +kernel
theorem dX11_greatest_17 : decode cX11_greatest 17 = .ok (.if_icmp .le 12, 3) := by decide +kernel
theorem dX11_greatest_20 : decode cX11_greatest 20 = .ok (.aload_n 0, 1) := by decide +kernel
theorem dX11_greatest_21 : decode cX11_greatest 21 = .ok (.getfield 51, 3) := by decide +kernel
theorem dX11_greatest_24 : decode cX11_greatest 24 = .ok (.iload_n 2, 1) := by decide +kernel
theorem dX11_greatest_25 : decode cX11_greatest 25 = .ok (.iaload, 1) := by decide +kernel
theorem dX11_greatest_26 : decode cX11_greatest 26 = .ok (.goto 4, 3) := by decide +kernel
theorem dX11_greatest_29 : decode cX11_greatest 29 = .ok (.iload_n 1, 1) := by decide +kernel
theorem dX11_greatest_30 : decode cX11_greatest 30 = .ok (.istore_n 1, 1) := by decide +kernel
theorem dX11_greatest_31 : decode cX11_greatest 31 = .ok (.iinc 2 1, 3) := by decide +kernel
theorem dX11_greatest_34 : decode cX11_greatest 34 = .ok (.goto (-30), 3) := by decide +kernel
theorem dX11_greatest_37 : decode cX11_greatest 37 = .ok (.iload_n 1, 1) := by decide +kernel
theorem dX11_greatest_38 : decode cX11_greatest 38 = .ok (.ireturn, 1) := by decide +kernel
theorem dX11_byMost_0 : decode cX11_byMost 0 = .ok (.aload_n 0, 1) := by decide +kernel
theorem dX11_byMost_1 : decode cX11_byMost 1 = .ok (.iload_n 1, 1) := by decide +kernel
theorem dX11_byMost_2 : decode cX11_byMost 2 = .ok (.invokevirtual 320, 3) := by decide +kernel
theorem dX11_byMost_5 : decode cX11_byMost 5 = .ok (.aload_n 0, 1) := by decide +kernel
theorem dX11_byMost_6 : decode cX11_byMost 6 = .ok (.invokevirtual 324, 3) := by decide +kernel
theorem dX11_byMost_9 : decode cX11_byMost 9 = .ok (.istore_n 2, 1) := by decide +kernel
theorem dX11_byMost_10 : decode cX11_byMost 10 = .ok (.iconst (-1), 1) := by decide +kernel
theorem dX11_byMost_11 : decode cX11_byMost 11 = .ok (.istore_n 3, 1) := by decide +kernel
theorem dX11_byMost_12 : decode cX11_byMost 12 = .ok (.iconst 0, 1) := by decide +kernel
theorem dX11_byMost_13 : decode cX11_byMost 13 = .ok (.istore 4, 2) := by decide +kernel
theorem dX11_byMost_15 : decode cX11_byMost 15 = .ok (.iload 4, 2) := by decide +kernel
theorem dX11_byMost_17 : decode cX11_byMost 17 = .ok (.aload_n 0, 1) := by decide +kernel
theorem dX11_byMost_18 : decode cX11_byMost 18 = .ok (.getfield 45, 3) := by decide +kernel
theorem dX11_byMost_21 : decode cX11_byMost 21 = .ok (.iconst 0, 1) := by decide +kernel
theorem dX11_byMost_22 : decode cX11_byMost 22 = .ok (.iaload, 1) := by decide +kernel
theorem dX11_byMost_23 : decode cX11_byMost 23 = .ok (.if_icmp .ge 48, 3) := by decide +kernel
theorem dX11_byMost_26 : decode cX11_byMost 26 = .ok (.aload_n 0, 1) := by decide +kernel
theorem dX11_byMost_27 : decode cX11_byMost 27 = .ok (.getfield 51, 3) := by decide +kernel
theorem dX11_byMost_30 : decode cX11_byMost 30 = .ok (.aload_n 0, 1) := by decide +kernel
theorem dX11_byMost_31 : decode cX11_byMost 31 = .ok (.getfield 48, 3) := by decide +kernel
theorem dX11_byMost_34 : decode cX11_byMost 34 = .ok (.iload 4, 2) := by decide +kernel
theorem dX11_byMost_36 : decode cX11_byMost 36 = .ok (.iaload, 1) := by decide +kernel
theorem dX11_byMost_37 : decode cX11_byMost 37 = .ok (.iaload, 1) := by decide +kernel
theorem dX11_byMost_38 : decode cX11_byMost 38 = .ok (.iload_n 2, 1) := by decide +kernel
theorem dX11_byMost_39 : decode cX11_byMost 39 = .ok (.if_icmp .ne 26, 3) := by decide +kernel
theorem dX11_byMost_42 : decode cX11_byMost 42 = .ok (.iload_n 3, 1) := by decide +kernel
theorem dX11_byMost_43 : decode cX11_byMost 43 = .ok (.ifCond .lt 19, 3) := by decide +kernel
theorem dX11_byMost_46 : decode cX11_byMost 46 = .ok (.aload_n 0, 1) := by decide +kernel
theorem dX11_byMost_47 : decode cX11_byMost 47 = .ok (.iload 4, 2) := by decide +kernel
theorem dX11_byMost_49 : decode cX11_byMost 49 = .ok (.iconst 3, 1) := by decide +kernel
theorem dX11_byMost_50 : decode cX11_byMost 50 = .ok (.invokevirtual 262, 3) := by decide +kernel
theorem dX11_byMost_53 : decode cX11_byMost 53 = .ok (.aload_n 0, 1) := by decide +kernel
theorem dX11_byMost_54 : decode cX11_byMost 54 = .ok (.iload_n 3, 1) := by decide +kernel
theorem dX11_byMost_55 : decode cX11_byMost 55 = .ok (.iconst 3, 1) := by decide +kernel
theorem dX11_byMost_56 : decode cX11_byMost 56 = .ok (.invokevirtual 262, 3) := by decide +kernel
theorem dX11_byMost_59 : decode cX11_byMost 59 = .ok (.if_icmp .le 6, 3) := by decide +kernel
theorem dX11_byMost_62 : decode cX11_byMost 62 = .ok (.iload 4, 2) := by decide +kernel
theorem dX11_byMost_64 : decode cX11_byMost 64 = .ok (.istore_n 3, 1) := by decide +kernel
theorem dX11_byMost_65 : decode cX11_byMost 65 = .ok (.iinc 4 1, 3) := by decide +kernel
theorem dX11_byMost_68 : decode cX11_byMost 68 = .ok (.goto (-53), 3) := by decide +kernel
theorem dX11_byMost_71 : decode cX11_byMost 71 = .ok (.aload_n 0, 1) := by decide +kernel
theorem dX11_byMost_72 : decode cX11_byMost 72 = .ok (.getfield 48, 3) := by decide +kernel
theorem dX11_byMost_75 : decode cX11_byMost 75 = .ok (.iload_n 3, 1) := by decide +kernel
theorem dX11_byMost_76 : decode cX11_byMost 76 = .ok (.iaload, 1) := by decide +kernel
theorem dX11_byMost_77 : decode cX11_byMost 77 = .ok (.ireturn, 1) := by decide +kernel
theorem dX11_byMiddle_0 : decode cX11_byMiddle 0 = .ok (.aload_n 0, 1) := by decide +kernel
theorem dX11_byMiddle_1 : decode cX11_byMiddle 1 = .ok (.iconst 0, 1) := by decide +kernel
theorem dX11_byMiddle_2 : decode cX11_byMiddle 2 = .ok (.invokevirtual 320, 3) := by decide +kernel
theorem dX11_byMiddle_5 : decode cX11_byMiddle 5 = .ok (.aload_n 0, 1) := by decide +kernel
theorem dX11_byMiddle_6 : decode cX11_byMiddle 6 = .ok (.getfield 45, 3) := by decide +kernel
theorem dX11_byMiddle_9 : decode cX11_byMiddle 9 = .ok (.iconst 0, 1) := by decide +kernel
theorem dX11_byMiddle_10 : decode cX11_byMiddle 10 = .ok (.iaload, 1) := by decide +kernel
theorem dX11_byMiddle_11 : decode cX11_byMiddle 11 = .ok (.iconst 2, 1) := by decide +kernel
theorem dX11_byMiddle_12 : decode cX11_byMiddle 12 = .ok (.idiv, 1) := by decide +kernel
theorem dX11_byMiddle_13 : decode cX11_byMiddle 13 = .ok (.aload_n 0, 1) := by decide +kernel
theorem dX11_byMiddle_14 : decode cX11_byMiddle 14 = .ok (.getfield 45, 3) := by decide +kernel
theorem dX11_byMiddle_17 : decode cX11_byMiddle 17 = .ok (.iconst 0, 1) := by decide +kernel
theorem dX11_byMiddle_18 : decode cX11_byMiddle 18 = .ok (.iaload, 1) := by decide +kernel
theorem dX11_byMiddle_19 : decode cX11_byMiddle 19 = .ok (.iconst 2, 1) := by decide +kernel
theorem dX11_byMiddle_20 : decode cX11_byMiddle 20 = .ok (.irem, 1) := by decide +kernel
theorem dX11_byMiddle_21 : decode cX11_byMiddle 21 = .ok (.ifCond .ne 7, 3) := by decide +kernel
theorem dX11_byMiddle_24 : decode cX11_byMiddle 24 = .ok (.iconst 1, 1) := by decide +kernel
theorem dX11_byMiddle_25 : decode cX11_byMiddle 25 = .ok (.goto 4, 3) := by decide +kernel
theorem dX11_byMiddle_28 : decode cX11_byMiddle 28 = .ok (.iconst 0, 1) := by decide +kernel
theorem dX11_byMiddle_29 : decode cX11_byMiddle 29 = .ok (.isub, 1) := by decide +kernel
theorem dX11_byMiddle_30 : decode cX11_byMiddle 30 = .ok (.istore_n 1, 1) := by decide +kernel
theorem dX11_byMiddle_31 : decode cX11_byMiddle 31 = .ok (.iconst 0, 1) := by decide +kernel
theorem dX11_byMiddle_32 : decode cX11_byMiddle 32 = .ok (.istore_n 2, 1) := by decide +kernel
theorem dX11_byMiddle_33 : decode cX11_byMiddle 33 = .ok (.aload_n 0, 1) := by decide +kernel
theorem dX11_byMiddle_34 : decode cX11_byMiddle 34 = .ok (.getfield 51, 3) := by decide +kernel
theorem dX11_byMiddle_37 : decode cX11_byMiddle 37 = .ok (.iconst 0, 1) := by decide +kernel
theorem dX11_byMiddle_38 : decode cX11_byMiddle 38 = .ok (.iaload, 1) := by decide +kernel
theorem dX11_byMiddle_39 : decode cX11_byMiddle 39 = .ok (.istore_n 3, 1) := by decide +kernel
theorem dX11_byMiddle_40 : decode cX11_byMiddle 40 = .ok (.iload_n 3, 1) := by decide +kernel
theorem dX11_byMiddle_41 : decode cX11_byMiddle 41 = .ok (.iload_n 1, 1) := by decide +kernel
theorem dX11_byMiddle_42 : decode cX11_byMiddle 42 = .ok (.if_icmp .gt 18, 3) := by decide +kernel
theorem dX11_byMiddle_45 : decode cX11_byMiddle 45 = .ok (.iinc 2 1, 3) := by decide +kernel
theorem dX11_byMiddle_48 : decode cX11_byMiddle 48 = .ok (.iload_n 3, 1) := by decide +kernel
theorem dX11_byMiddle_49 : decode cX11_byMiddle 49 = .ok (.aload_n 0, 1) := by decide +kernel
theorem dX11_byMiddle_50 : decode cX11_byMiddle 50 = .ok (.getfield 51, 3) := by decide +kernel
theorem dX11_byMiddle_53 : decode cX11_byMiddle 53 = .ok (.iload_n 2, 1) := by decide +kernel
theorem dX11_byMiddle_54 : decode cX11_byMiddle 54 = .ok (.iaload, 1) := by decide +kernel
theorem dX11_byMiddle_55 : decode cX11_byMiddle 55 = .ok (.iadd, 1) := by decide +kernel
theorem dX11_byMiddle_56 : decode cX11_byMiddle 56 = .ok (.istore_n 3, 1) := by decide +kernel
theorem dX11_byMiddle_57 : decode cX11_byMiddle 57 = .ok (.goto (-17), 3) := by decide +kernel
theorem dX11_byMiddle_60 : decode cX11_byMiddle 60 = .ok (.iload_n 2, 1) := by decide +kernel
theorem dX11_byMiddle_61 : decode cX11_byMiddle 61 = .ok (.ireturn, 1) := by decide +kernel
theorem dX11_worst_0 : decode cX11_worst 0 = .ok (.iconst (-1), 1) := by decide +kernel
theorem dX11_worst_1 : decode cX11_worst 1 = .ok (.istore_n 1, 1) := by decide +kernel
theorem dX11_worst_2 : decode cX11_worst 2 = .ok (.iconst 0, 1) := by decide +kernel
theorem dX11_worst_3 : decode cX11_worst 3 = .ok (.istore_n 2, 1) := by decide +kernel
theorem dX11_worst_4 : decode cX11_worst 4 = .ok (.iload_n 2, 1) := by decide +kernel
theorem dX11_worst_5 : decode cX11_worst 5 = .ok (.bipush 8, 2) := by decide +kernel
theorem dX11_worst_7 : decode cX11_worst 7 = .ok (.if_icmp .ge 39, 3) := by decide +kernel
theorem dX11_worst_10 : decode cX11_worst 10 = .ok (.aload_n 0, 1) := by decide +kernel
theorem dX11_worst_11 : decode cX11_worst 11 = .ok (.getfield 51, 3) := by decide +kernel
theorem dX11_worst_14 : decode cX11_worst 14 = .ok (.iload_n 2, 1) := by decide +kernel
theorem dX11_worst_15 : decode cX11_worst 15 = .ok (.iaload, 1) := by decide +kernel
theorem dX11_worst_16 : decode cX11_worst 16 = .ok (.ifCond .le 24, 3) := by decide +kernel
theorem dX11_worst_19 : decode cX11_worst 19 = .ok (.iload_n 1, 1) := by decide +kernel
theorem dX11_worst_20 : decode cX11_worst 20 = .ok (.ifCond .lt 18, 3) := by decide +kernel
theorem dX11_worst_23 : decode cX11_worst 23 = .ok (.aload_n 0, 1) := by decide +kernel
theorem dX11_worst_24 : decode cX11_worst 24 = .ok (.getfield 51, 3) := by decide +kernel
theorem dX11_worst_27 : decode cX11_worst 27 = .ok (.iload_n 2, 1) := by decide +kernel
theorem dX11_worst_28 : decode cX11_worst 28 = .ok (.iaload, 1) := by decide +kernel
theorem dX11_worst_29 : decode cX11_worst 29 = .ok (.aload_n 0, 1) := by decide +kernel
theorem dX11_worst_30 : decode cX11_worst 30 = .ok (.getfield 51, 3) := by decide +kernel
theorem dX11_worst_33 : decode cX11_worst 33 = .ok (.iload_n 1, 1) := by decide +kernel
theorem dX11_worst_34 : decode cX11_worst 34 = .ok (.iaload, 1) := by decide +kernel
theorem dX11_worst_35 : decode cX11_worst 35 = .ok (.if_icmp .gt 5, 3) := by decide +kernel
theorem dX11_worst_38 : decode cX11_worst 38 = .ok (.iload_n 2, 1) := by decide +kernel
theorem dX11_worst_39 : decode cX11_worst 39 = .ok (.istore_n 1, 1) := by decide +kernel
theorem dX11_worst_40 : decode cX11_worst 40 = .ok (.iinc 2 1, 3) := by decide +kernel
theorem dX11_worst_43 : decode cX11_worst 43 = .ok (.goto (-39), 3) := by decide +kernel
theorem dX11_worst_46 : decode cX11_worst 46 = .ok (.iload_n 1, 1) := by decide +kernel
theorem dX11_worst_47 : decode cX11_worst 47 = .ok (.ireturn, 1) := by decide +kernel
theorem dX11_nearest_0 : decode cX11_nearest 0 = .ok (.iconst 1, 1) := by decide +kernel
theorem dX11_nearest_1 : decode cX11_nearest 1 = .ok (.istore_n 2, 1) := by decide +kernel
theorem dX11_nearest_2 : decode cX11_nearest 2 = .ok (.iload_n 2, 1) := by decide +kernel
theorem dX11_nearest_3 : decode cX11_nearest 3 = .ok (.iconst 5, 1) := by decide +kernel
theorem dX11_nearest_4 : decode cX11_nearest 4 = .ok (.if_icmp .ge 51, 3) := by decide +kernel
theorem dX11_nearest_7 : decode cX11_nearest 7 = .ok (.aload_n 0, 1) := by decide +kernel
theorem dX11_nearest_8 : decode cX11_nearest 8 = .ok (.getfield 51, 3) := by decide +kernel
theorem dX11_nearest_11 : decode cX11_nearest 11 = .ok (.iload_n 1, 1) := by decide +kernel
theorem dX11_nearest_12 : decode cX11_nearest 12 = .ok (.iload_n 2, 1) := by decide +kernel
theorem dX11_nearest_13 : decode cX11_nearest 13 = .ok (.iadd, 1) := by decide +kernel
theorem dX11_nearest_14 : decode cX11_nearest 14 = .ok (.bipush 7, 2) := by decide +kernel
theorem dX11_nearest_16 : decode cX11_nearest 16 = .ok (.iand, 1) := by decide +kernel
theorem dX11_nearest_17 : decode cX11_nearest 17 = .ok (.iaload, 1) := by decide +kernel
theorem dX11_nearest_18 : decode cX11_nearest 18 = .ok (.ifCond .le 10, 3) := by decide +kernel
theorem dX11_nearest_21 : decode cX11_nearest 21 = .ok (.iload_n 1, 1) := by decide +kernel
theorem dX11_nearest_22 : decode cX11_nearest 22 = .ok (.iload_n 2, 1) := by decide +kernel
theorem dX11_nearest_23 : decode cX11_nearest 23 = .ok (.iadd, 1) := by decide +kernel
theorem dX11_nearest_24 : decode cX11_nearest 24 = .ok (.bipush 7, 2) := by decide +kernel
theorem dX11_nearest_26 : decode cX11_nearest 26 = .ok (.iand, 1) := by decide +kernel
theorem dX11_nearest_27 : decode cX11_nearest 27 = .ok (.ireturn, 1) := by decide +kernel
theorem dX11_nearest_28 : decode cX11_nearest 28 = .ok (.aload_n 0, 1) := by decide +kernel
theorem dX11_nearest_29 : decode cX11_nearest 29 = .ok (.getfield 51, 3) := by decide +kernel
theorem dX11_nearest_32 : decode cX11_nearest 32 = .ok (.iload_n 1, 1) := by decide +kernel
theorem dX11_nearest_33 : decode cX11_nearest 33 = .ok (.iload_n 2, 1) := by decide +kernel
theorem dX11_nearest_34 : decode cX11_nearest 34 = .ok (.isub, 1) := by decide +kernel
theorem dX11_nearest_35 : decode cX11_nearest 35 = .ok (.bipush 7, 2) := by decide +kernel
theorem dX11_nearest_37 : decode cX11_nearest 37 = .ok (.iand, 1) := by decide +kernel
theorem dX11_nearest_38 : decode cX11_nearest 38 = .ok (.iaload, 1) := by decide +kernel
theorem dX11_nearest_39 : decode cX11_nearest 39 = .ok (.ifCond .le 10, 3) := by decide +kernel
theorem dX11_nearest_42 : decode cX11_nearest 42 = .ok (.iload_n 1, 1) := by decide +kernel
theorem dX11_nearest_43 : decode cX11_nearest 43 = .ok (.iload_n 2, 1) := by decide +kernel
theorem dX11_nearest_44 : decode cX11_nearest 44 = .ok (.isub, 1) := by decide +kernel
theorem dX11_nearest_45 : decode cX11_nearest 45 = .ok (.bipush 7, 2) := by decide +kernel
theorem dX11_nearest_47 : decode cX11_nearest 47 = .ok (.iand, 1) := by decide +kernel
theorem dX11_nearest_48 : decode cX11_nearest 48 = .ok (.ireturn, 1) := by decide +kernel
theorem dX11_nearest_49 : decode cX11_nearest 49 = .ok (.iinc 2 1, 3) := by decide +kernel
theorem dX11_nearest_52 : decode cX11_nearest 52 = .ok (.goto (-50), 3) := by decide +kernel
theorem dX11_nearest_55 : decode cX11_nearest 55 = .ok (.iload_n 1, 1) := by decide +kernel
theorem dX11_nearest_56 : decode cX11_nearest 56 = .ok (.ireturn, 1) := by decide +kernel
theorem dX11_pointsSaid_0 : decode cX11_pointsSaid 0 = .ok (.iconst 0, 1) := by decide +kernel
theorem dX11_pointsSaid_1 : decode cX11_pointsSaid 1 = .ok (.istore_n 1, 1) := by decide +kernel
theorem dX11_pointsSaid_2 : decode cX11_pointsSaid 2 = .ok (.iconst 0, 1) := by decide +kernel
theorem dX11_pointsSaid_3 : decode cX11_pointsSaid 3 = .ok (.istore_n 2, 1) := by decide +kernel
theorem dX11_pointsSaid_4 : decode cX11_pointsSaid 4 = .ok (.iload_n 2, 1) := by decide +kernel
theorem dX11_pointsSaid_5 : decode cX11_pointsSaid 5 = .ok (.bipush 8, 2) := by decide +kernel
theorem dX11_pointsSaid_7 : decode cX11_pointsSaid 7 = .ok (.if_icmp .ge 26, 3) := by decide +kernel
theorem dX11_pointsSaid_10 : decode cX11_pointsSaid 10 = .ok (.iload_n 1, 1) := by decide +kernel
theorem dX11_pointsSaid_11 : decode cX11_pointsSaid 11 = .ok (.aload_n 0, 1) := by decide +kernel
theorem dX11_pointsSaid_12 : decode cX11_pointsSaid 12 = .ok (.getfield 51, 3) := by decide +kernel
theorem dX11_pointsSaid_15 : decode cX11_pointsSaid 15 = .ok (.iload_n 2, 1) := by decide +kernel
theorem dX11_pointsSaid_16 : decode cX11_pointsSaid 16 = .ok (.iaload, 1) := by decide +kernel
theorem dX11_pointsSaid_17 : decode cX11_pointsSaid 17 = .ok (.ifCond .le 7, 3) := by decide +kernel
theorem dX11_pointsSaid_20 : decode cX11_pointsSaid 20 = .ok (.iconst 1, 1) := by decide +kernel
theorem dX11_pointsSaid_21 : decode cX11_pointsSaid 21 = .ok (.goto 4, 3) := by decide +kernel
theorem dX11_pointsSaid_24 : decode cX11_pointsSaid 24 = .ok (.iconst 0, 1) := by decide +kernel
theorem dX11_pointsSaid_25 : decode cX11_pointsSaid 25 = .ok (.iadd, 1) := by decide +kernel
theorem dX11_pointsSaid_26 : decode cX11_pointsSaid 26 = .ok (.istore_n 1, 1) := by decide +kernel
theorem dX11_pointsSaid_27 : decode cX11_pointsSaid 27 = .ok (.iinc 2 1, 3) := by decide +kernel
theorem dX11_pointsSaid_30 : decode cX11_pointsSaid 30 = .ok (.goto (-26), 3) := by decide +kernel
theorem dX11_pointsSaid_33 : decode cX11_pointsSaid 33 = .ok (.iload_n 1, 1) := by decide +kernel
theorem dX11_pointsSaid_34 : decode cX11_pointsSaid 34 = .ok (.ireturn, 1) := by decide +kernel
theorem dX11_byStriking_0 : decode cX11_byStriking 0 = .ok (.aload_n 0, 1) := by decide +kernel
theorem dX11_byStriking_1 : decode cX11_byStriking 1 = .ok (.iconst 0, 1) := by decide +kernel
theorem dX11_byStriking_2 : decode cX11_byStriking 2 = .ok (.invokevirtual 320, 3) := by decide +kernel
theorem dX11_byStriking_5 : decode cX11_byStriking 5 = .ok (.aload_n 0, 1) := by decide +kernel
theorem dX11_byStriking_6 : decode cX11_byStriking 6 = .ok (.invokevirtual 327, 3) := by decide +kernel
theorem dX11_byStriking_9 : decode cX11_byStriking 9 = .ok (.iconst 1, 1) := by decide +kernel
theorem dX11_byStriking_10 : decode cX11_byStriking 10 = .ok (.if_icmp .le 54, 3) := by decide +kernel
theorem dX11_byStriking_13 : decode cX11_byStriking 13 = .ok (.iconst 2, 1) := by decide +kernel
theorem dX11_byStriking_14 : decode cX11_byStriking 14 = .ok (.aload_n 0, 1) := by decide +kernel
theorem dX11_byStriking_15 : decode cX11_byStriking 15 = .ok (.invokevirtual 324, 3) := by decide +kernel
theorem dX11_byStriking_18 : decode cX11_byStriking 18 = .ok (.imul, 1) := by decide +kernel
theorem dX11_byStriking_19 : decode cX11_byStriking 19 = .ok (.aload_n 0, 1) := by decide +kernel
theorem dX11_byStriking_20 : decode cX11_byStriking 20 = .ok (.getfield 45, 3) := by decide +kernel
theorem dX11_byStriking_23 : decode cX11_byStriking 23 = .ok (.iconst 0, 1) := by decide +kernel
theorem dX11_byStriking_24 : decode cX11_byStriking 24 = .ok (.iaload, 1) := by decide +kernel
theorem dX11_byStriking_25 : decode cX11_byStriking 25 = .ok (.if_icmp .gt 39, 3) := by decide +kernel
theorem dX11_byStriking_28 : decode cX11_byStriking 28 = .ok (.aload_n 0, 1) := by decide +kernel
theorem dX11_byStriking_29 : decode cX11_byStriking 29 = .ok (.invokevirtual 330, 3) := by decide +kernel
theorem dX11_byStriking_32 : decode cX11_byStriking 32 = .ok (.istore_n 1, 1) := by decide +kernel
theorem dX11_byStriking_33 : decode cX11_byStriking 33 = .ok (.aload_n 0, 1) := by decide +kernel
theorem dX11_byStriking_34 : decode cX11_byStriking 34 = .ok (.iload_n 1, 1) := by decide +kernel
theorem dX11_byStriking_35 : decode cX11_byStriking 35 = .ok (.invokevirtual 333, 3) := by decide +kernel
theorem dX11_byStriking_38 : decode cX11_byStriking 38 = .ok (.istore_n 2, 1) := by decide +kernel
theorem dX11_byStriking_39 : decode cX11_byStriking 39 = .ok (.aload_n 0, 1) := by decide +kernel
theorem dX11_byStriking_40 : decode cX11_byStriking 40 = .ok (.getfield 51, 3) := by decide +kernel
theorem dX11_byStriking_43 : decode cX11_byStriking 43 = .ok (.iload_n 2, 1) := by decide +kernel
theorem dX11_byStriking_44 : decode cX11_byStriking 44 = .ok (.dup2, 1) := by decide +kernel
theorem dX11_byStriking_45 : decode cX11_byStriking 45 = .ok (.iaload, 1) := by decide +kernel
theorem dX11_byStriking_46 : decode cX11_byStriking 46 = .ok (.aload_n 0, 1) := by decide +kernel
theorem dX11_byStriking_47 : decode cX11_byStriking 47 = .ok (.getfield 51, 3) := by decide +kernel
theorem dX11_byStriking_50 : decode cX11_byStriking 50 = .ok (.iload_n 1, 1) := by decide +kernel
theorem dX11_byStriking_51 : decode cX11_byStriking 51 = .ok (.iaload, 1) := by decide +kernel
theorem dX11_byStriking_52 : decode cX11_byStriking 52 = .ok (.iadd, 1) := by decide +kernel
theorem dX11_byStriking_53 : decode cX11_byStriking 53 = .ok (.iastore, 1) := by decide +kernel
theorem dX11_byStriking_54 : decode cX11_byStriking 54 = .ok (.aload_n 0, 1) := by decide +kernel
theorem dX11_byStriking_55 : decode cX11_byStriking 55 = .ok (.getfield 51, 3) := by decide +kernel
theorem dX11_byStriking_58 : decode cX11_byStriking 58 = .ok (.iload_n 1, 1) := by decide +kernel
theorem dX11_byStriking_59 : decode cX11_byStriking 59 = .ok (.iconst 0, 1) := by decide +kernel
theorem dX11_byStriking_60 : decode cX11_byStriking 60 = .ok (.iastore, 1) := by decide +kernel
theorem dX11_byStriking_61 : decode cX11_byStriking 61 = .ok (.goto (-56), 3) := by decide +kernel
theorem dX11_byStriking_64 : decode cX11_byStriking 64 = .ok (.iconst 0, 1) := by decide +kernel
theorem dX11_byStriking_65 : decode cX11_byStriking 65 = .ok (.istore_n 1, 1) := by decide +kernel
theorem dX11_byStriking_66 : decode cX11_byStriking 66 = .ok (.aload_n 0, 1) := by decide +kernel
theorem dX11_byStriking_67 : decode cX11_byStriking 67 = .ok (.getfield 51, 3) := by decide +kernel
theorem dX11_byStriking_70 : decode cX11_byStriking 70 = .ok (.iload_n 1, 1) := by decide +kernel
theorem dX11_byStriking_71 : decode cX11_byStriking 71 = .ok (.iaload, 1) := by decide +kernel
theorem dX11_byStriking_72 : decode cX11_byStriking 72 = .ok (.aload_n 0, 1) := by decide +kernel
theorem dX11_byStriking_73 : decode cX11_byStriking 73 = .ok (.invokevirtual 324, 3) := by decide +kernel
theorem dX11_byStriking_76 : decode cX11_byStriking 76 = .ok (.if_icmp .eq 9, 3) := by decide +kernel
theorem dX11_byStriking_79 : decode cX11_byStriking 79 = .ok (.iinc 1 1, 3) := by decide +kernel
theorem dX11_byStriking_82 : decode cX11_byStriking 82 = .ok (.goto (-16), 3) := by decide +kernel
theorem dX11_byStriking_85 : decode cX11_byStriking 85 = .ok (.iload_n 1, 1) := by decide +kernel
theorem dX11_byStriking_86 : decode cX11_byStriking 86 = .ok (.ireturn, 1) := by decide +kernel
theorem dX11_votes_0 : decode cX11_votes 0 = .ok (.iload_n 1, 1) := by decide +kernel
theorem dX11_votes_1 : decode cX11_votes 1 = .ok (.ifCond .ne 11, 3) := by decide +kernel
theorem dX11_votes_4 : decode cX11_votes 4 = .ok (.aload_n 0, 1) := by decide +kernel
theorem dX11_votes_5 : decode cX11_votes 5 = .ok (.iconst 0, 1) := by decide +kernel
theorem dX11_votes_6 : decode cX11_votes 6 = .ok (.invokevirtual 336, 3) := by decide +kernel
theorem dX11_votes_9 : decode cX11_votes 9 = .ok (.goto 32, 3) := by decide +kernel
theorem dX11_votes_12 : decode cX11_votes 12 = .ok (.iload_n 1, 1) := by decide +kernel
theorem dX11_votes_13 : decode cX11_votes 13 = .ok (.iconst 1, 1) := by decide +kernel
theorem dX11_votes_14 : decode cX11_votes 14 = .ok (.if_icmp .ne 11, 3) := by decide +kernel
theorem dX11_votes_17 : decode cX11_votes 17 = .ok (.aload_n 0, 1) := by decide +kernel
theorem dX11_votes_18 : decode cX11_votes 18 = .ok (.iconst 1, 1) := by decide +kernel
theorem dX11_votes_19 : decode cX11_votes 19 = .ok (.invokevirtual 336, 3) := by decide +kernel
theorem dX11_votes_22 : decode cX11_votes 22 = .ok (.goto 19, 3) := by decide +kernel
theorem dX11_votes_25 : decode cX11_votes 25 = .ok (.iload_n 1, 1) := by decide +kernel
theorem dX11_votes_26 : decode cX11_votes 26 = .ok (.iconst 2, 1) := by decide +kernel
theorem dX11_votes_27 : decode cX11_votes 27 = .ok (.if_icmp .ne 10, 3) := by decide +kernel
theorem dX11_votes_30 : decode cX11_votes 30 = .ok (.aload_n 0, 1) := by decide +kernel
theorem dX11_votes_31 : decode cX11_votes 31 = .ok (.invokevirtual 340, 3) := by decide +kernel
theorem dX11_votes_34 : decode cX11_votes 34 = .ok (.goto 7, 3) := by decide +kernel
theorem dX11_votes_37 : decode cX11_votes 37 = .ok (.aload_n 0, 1) := by decide +kernel
theorem dX11_votes_38 : decode cX11_votes 38 = .ok (.invokevirtual 343, 3) := by decide +kernel
theorem dX11_votes_41 : decode cX11_votes 41 = .ok (.ireturn, 1) := by decide +kernel
theorem dX11_vote_0 : decode cX11_vote 0 = .ok (.aload_n 0, 1) := by decide +kernel
theorem dX11_vote_1 : decode cX11_vote 1 = .ok (.getfield 45, 3) := by decide +kernel
theorem dX11_vote_4 : decode cX11_vote 4 = .ok (.iconst 0, 1) := by decide +kernel
theorem dX11_vote_5 : decode cX11_vote 5 = .ok (.iaload, 1) := by decide +kernel
theorem dX11_vote_6 : decode cX11_vote 6 = .ok (.ifCond .eq 10, 3) := by decide +kernel
theorem dX11_vote_9 : decode cX11_vote 9 = .ok (.iload_n 1, 1) := by decide +kernel
theorem dX11_vote_10 : decode cX11_vote 10 = .ok (.invokestatic 346, 3) := by decide +kernel
theorem dX11_vote_13 : decode cX11_vote 13 = .ok (.ifCond .ne 5, 3) := by decide +kernel
theorem dX11_vote_16 : decode cX11_vote 16 = .ok (.iconst (-1), 1) := by decide +kernel
theorem dX11_vote_17 : decode cX11_vote 17 = .ok (.ireturn, 1) := by decide +kernel
theorem dX11_vote_18 : decode cX11_vote 18 = .ok (.aload_n 0, 1) := by decide +kernel
theorem dX11_vote_19 : decode cX11_vote 19 = .ok (.invokevirtual 349, 3) := by decide +kernel
theorem dX11_vote_22 : decode cX11_vote 22 = .ok (.aload_n 0, 1) := by decide +kernel
theorem dX11_vote_23 : decode cX11_vote 23 = .ok (.iload_n 1, 1) := by decide +kernel
theorem dX11_vote_24 : decode cX11_vote 24 = .ok (.invokevirtual 352, 3) := by decide +kernel
theorem dX11_vote_27 : decode cX11_vote 27 = .ok (.ireturn, 1) := by decide +kernel
theorem dX11_says_0 : decode cX11_says 0 = .ok (.aload_n 0, 1) := by decide +kernel
theorem dX11_says_1 : decode cX11_says 1 = .ok (.getfield 45, 3) := by decide +kernel
theorem dX11_says_4 : decode cX11_says 4 = .ok (.iconst 0, 1) := by decide +kernel
theorem dX11_says_5 : decode cX11_says 5 = .ok (.iaload, 1) := by decide +kernel
theorem dX11_says_6 : decode cX11_says 6 = .ok (.ifCond .eq 10, 3) := by decide +kernel
theorem dX11_says_9 : decode cX11_says 9 = .ok (.iload_n 1, 1) := by decide +kernel
theorem dX11_says_10 : decode cX11_says 10 = .ok (.invokestatic 276, 3) := by decide +kernel
theorem dX11_says_13 : decode cX11_says 13 = .ok (.ifCond .ne 5, 3) := by decide +kernel
theorem dX11_says_16 : decode cX11_says 16 = .ok (.iconst (-1), 1) := by decide +kernel
theorem dX11_says_17 : decode cX11_says 17 = .ok (.ireturn, 1) := by decide +kernel
theorem dX11_says_18 : decode cX11_says 18 = .ok (.aload_n 0, 1) := by decide +kernel
theorem dX11_says_19 : decode cX11_says 19 = .ok (.invokevirtual 349, 3) := by decide +kernel
theorem dX11_says_22 : decode cX11_says 22 = .ok (.aload_n 0, 1) := by decide +kernel
theorem dX11_says_23 : decode cX11_says 23 = .ok (.iconst 0, 1) := by decide +kernel
theorem dX11_says_24 : decode cX11_says 24 = .ok (.invokevirtual 320, 3) := by decide +kernel
theorem dX11_says_27 : decode cX11_says 27 = .ok (.aload_n 0, 1) := by decide +kernel
theorem dX11_says_28 : decode cX11_says 28 = .ok (.getfield 51, 3) := by decide +kernel
theorem dX11_says_31 : decode cX11_says 31 = .ok (.iload_n 1, 1) := by decide +kernel
theorem dX11_says_32 : decode cX11_says 32 = .ok (.iaload, 1) := by decide +kernel
theorem dX11_says_33 : decode cX11_says 33 = .ok (.ireturn, 1) := by decide +kernel
theorem dX11_keepsRow_0 : decode cX11_keepsRow 0 = .ok (.iconst 0, 1) := by decide +kernel
theorem dX11_keepsRow_1 : decode cX11_keepsRow 1 = .ok (.istore_n 1, 1) := by decide +kernel
theorem dX11_keepsRow_2 : decode cX11_keepsRow 2 = .ok (.iload_n 1, 1) := by decide +kernel
theorem dX11_keepsRow_3 : decode cX11_keepsRow 3 = .ok (.aload_n 0, 1) := by decide +kernel
theorem dX11_keepsRow_4 : decode cX11_keepsRow 4 = .ok (.getfield 45, 3) := by decide +kernel
theorem dX11_keepsRow_7 : decode cX11_keepsRow 7 = .ok (.iconst 0, 1) := by decide +kernel
theorem dX11_keepsRow_8 : decode cX11_keepsRow 8 = .ok (.iaload, 1) := by decide +kernel
theorem dX11_keepsRow_9 : decode cX11_keepsRow 9 = .ok (.if_icmp .ge 21, 3) := by decide +kernel
theorem dX11_keepsRow_12 : decode cX11_keepsRow 12 = .ok (.aload_n 0, 1) := by decide +kernel
theorem dX11_keepsRow_13 : decode cX11_keepsRow 13 = .ok (.getfield 54, 3) := by decide +kernel
theorem dX11_keepsRow_16 : decode cX11_keepsRow 16 = .ok (.iload_n 1, 1) := by decide +kernel
theorem dX11_keepsRow_17 : decode cX11_keepsRow 17 = .ok (.aload_n 0, 1) := by decide +kernel
theorem dX11_keepsRow_18 : decode cX11_keepsRow 18 = .ok (.getfield 48, 3) := by decide +kernel
theorem dX11_keepsRow_21 : decode cX11_keepsRow 21 = .ok (.iload_n 1, 1) := by decide +kernel
theorem dX11_keepsRow_22 : decode cX11_keepsRow 22 = .ok (.iaload, 1) := by decide +kernel
theorem dX11_keepsRow_23 : decode cX11_keepsRow 23 = .ok (.iastore, 1) := by decide +kernel
theorem dX11_keepsRow_24 : decode cX11_keepsRow 24 = .ok (.iinc 1 1, 3) := by decide +kernel
theorem dX11_keepsRow_27 : decode cX11_keepsRow 27 = .ok (.goto (-25), 3) := by decide +kernel
theorem dX11_keepsRow_30 : decode cX11_keepsRow 30 = .ok (.return_, 1) := by decide +kernel
theorem dX11_bends_0 : decode cX11_bends 0 = .ok (.iconst 0, 1) := by decide +kernel
theorem dX11_bends_1 : decode cX11_bends 1 = .ok (.istore_n 3, 1) := by decide +kernel
theorem dX11_bends_2 : decode cX11_bends 2 = .ok (.iconst 0, 1) := by decide +kernel
theorem dX11_bends_3 : decode cX11_bends 3 = .ok (.istore 4, 2) := by decide +kernel
theorem dX11_bends_5 : decode cX11_bends 5 = .ok (.iload 4, 2) := by decide +kernel
theorem dX11_bends_7 : decode cX11_bends 7 = .ok (.aload_n 0, 1) := by decide +kernel
theorem dX11_bends_8 : decode cX11_bends 8 = .ok (.getfield 45, 3) := by decide +kernel
theorem dX11_bends_11 : decode cX11_bends 11 = .ok (.iconst 0, 1) := by decide +kernel
theorem dX11_bends_12 : decode cX11_bends 12 = .ok (.iaload, 1) := by decide +kernel
theorem dX11_bends_13 : decode cX11_bends 13 = .ok (.if_icmp .ge 66, 3) := by decide +kernel
theorem dX11_bends_16 : decode cX11_bends 16 = .ok (.aload_n 0, 1) := by decide +kernel
theorem dX11_bends_17 : decode cX11_bends 17 = .ok (.getfield 48, 3) := by decide +kernel
theorem dX11_bends_20 : decode cX11_bends 20 = .ok (.iload 4, 2) := by decide +kernel
theorem dX11_bends_22 : decode cX11_bends 22 = .ok (.iload_n 1, 1) := by decide +kernel
theorem dX11_bends_23 : decode cX11_bends 23 = .ok (.iload 4, 2) := by decide +kernel
theorem dX11_bends_25 : decode cX11_bends 25 = .ok (.invokestatic 355, 3) := by decide +kernel
theorem dX11_bends_28 : decode cX11_bends 28 = .ok (.ifCond .eq 7, 3) := by decide +kernel
theorem dX11_bends_31 : decode cX11_bends 31 = .ok (.iload_n 2, 1) := by decide +kernel
theorem dX11_bends_32 : decode cX11_bends 32 = .ok (.goto 10, 3) := by decide +kernel
theorem dX11_bends_35 : decode cX11_bends 35 = .ok (.aload_n 0, 1) := by decide +kernel
theorem dX11_bends_36 : decode cX11_bends 36 = .ok (.getfield 54, 3) := by decide +kernel
theorem dX11_bends_39 : decode cX11_bends 39 = .ok (.iload 4, 2) := by decide +kernel
theorem dX11_bends_41 : decode cX11_bends 41 = .ok (.iaload, 1) := by decide +kernel
theorem dX11_bends_42 : decode cX11_bends 42 = .ok (.iastore, 1) := by decide +kernel
theorem dX11_bends_43 : decode cX11_bends 43 = .ok (.iload_n 3, 1) := by decide +kernel
theorem dX11_bends_44 : decode cX11_bends 44 = .ok (.iload_n 1, 1) := by decide +kernel
theorem dX11_bends_45 : decode cX11_bends 45 = .ok (.iload 4, 2) := by decide +kernel
theorem dX11_bends_47 : decode cX11_bends 47 = .ok (.invokestatic 355, 3) := by decide +kernel
theorem dX11_bends_50 : decode cX11_bends 50 = .ok (.ifCond .eq 20, 3) := by decide +kernel
theorem dX11_bends_53 : decode cX11_bends 53 = .ok (.aload_n 0, 1) := by decide +kernel
theorem dX11_bends_54 : decode cX11_bends 54 = .ok (.iload 4, 2) := by decide +kernel
theorem dX11_bends_56 : decode cX11_bends 56 = .ok (.aload_n 0, 1) := by decide +kernel
theorem dX11_bends_57 : decode cX11_bends 57 = .ok (.getfield 54, 3) := by decide +kernel
theorem dX11_bends_60 : decode cX11_bends 60 = .ok (.iload 4, 2) := by decide +kernel
theorem dX11_bends_62 : decode cX11_bends 62 = .ok (.iaload, 1) := by decide +kernel
theorem dX11_bends_63 : decode cX11_bends 63 = .ok (.iload_n 2, 1) := by decide +kernel
theorem dX11_bends_64 : decode cX11_bends 64 = .ok (.invokevirtual 312, 3) := by decide +kernel
theorem dX11_bends_67 : decode cX11_bends 67 = .ok (.goto 4, 3) := by decide +kernel
theorem dX11_bends_70 : decode cX11_bends 70 = .ok (.iconst 0, 1) := by decide +kernel
theorem dX11_bends_71 : decode cX11_bends 71 = .ok (.iadd, 1) := by decide +kernel
theorem dX11_bends_72 : decode cX11_bends 72 = .ok (.istore_n 3, 1) := by decide +kernel
theorem dX11_bends_73 : decode cX11_bends 73 = .ok (.iinc 4 1, 3) := by decide +kernel
theorem dX11_bends_76 : decode cX11_bends 76 = .ok (.goto (-71), 3) := by decide +kernel
theorem dX11_bends_79 : decode cX11_bends 79 = .ok (.iload_n 3, 1) := by decide +kernel
theorem dX11_bends_80 : decode cX11_bends 80 = .ok (.ireturn, 1) := by decide +kernel
theorem dX11_cheapestSet_0 : decode cX11_cheapestSet 0 = .ok (.iconst (-1), 1) := by decide +kernel
theorem dX11_cheapestSet_1 : decode cX11_cheapestSet 1 = .ok (.istore 4, 2) := by decide +kernel
theorem dX11_cheapestSet_3 : decode cX11_cheapestSet 3 = .ok (.iconst 0, 1) := by decide +kernel
theorem dX11_cheapestSet_4 : decode cX11_cheapestSet 4 = .ok (.istore 5, 2) := by decide +kernel
theorem dX11_cheapestSet_6 : decode cX11_cheapestSet 6 = .ok (.iload 5, 2) := by decide +kernel
theorem dX11_cheapestSet_8 : decode cX11_cheapestSet 8 = .ok (.iconst 1, 1) := by decide +kernel
theorem dX11_cheapestSet_9 : decode cX11_cheapestSet 9 = .ok (.aload_n 0, 1) := by decide +kernel
theorem dX11_cheapestSet_10 : decode cX11_cheapestSet 10 = .ok (.getfield 45, 3) := by decide +kernel
theorem dX11_cheapestSet_13 : decode cX11_cheapestSet 13 = .ok (.iconst 0, 1) := by decide +kernel
theorem dX11_cheapestSet_14 : decode cX11_cheapestSet 14 = .ok (.iaload, 1) := by decide +kernel
theorem dX11_cheapestSet_15 : decode cX11_cheapestSet 15 = .ok (.ishl, 1) := by decide +kernel
