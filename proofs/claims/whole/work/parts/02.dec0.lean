theorem dX0_init_0 : decode cX0_init 0 = .ok (.aload_n 0, 1) := by decide +kernel
theorem dX0_init_1 : decode cX0_init 1 = .ok (.invokespecial 3, 3) := by decide +kernel
theorem dX0_init_4 : decode cX0_init 4 = .ok (.aload_n 0, 1) := by decide +kernel
theorem dX0_init_5 : decode cX0_init 5 = .ok (.bipush 12, 2) := by decide +kernel
theorem dX0_init_7 : decode cX0_init 7 = .ok (.newarray .int, 2) := by decide +kernel
theorem dX0_init_9 : decode cX0_init 9 = .ok (.putfield 9, 3) := by decide +kernel
theorem dX0_init_12 : decode cX0_init 12 = .ok (.aload_n 0, 1) := by decide +kernel
theorem dX0_init_13 : decode cX0_init 13 = .ok (.sipush 768, 3) := by decide +kernel
theorem dX0_init_16 : decode cX0_init 16 = .ok (.newarray .int, 2) := by decide +kernel
theorem dX0_init_18 : decode cX0_init 18 = .ok (.putfield 15, 3) := by decide +kernel
theorem dX0_init_21 : decode cX0_init 21 = .ok (.aload_n 0, 1) := by decide +kernel
theorem dX0_init_22 : decode cX0_init 22 = .ok (.aconst_null, 1) := by decide +kernel
theorem dX0_init_23 : decode cX0_init 23 = .ok (.putfield 18, 3) := by decide +kernel
theorem dX0_init_26 : decode cX0_init 26 = .ok (.aload_n 0, 1) := by decide +kernel
theorem dX0_init_27 : decode cX0_init 27 = .ok (.iconst 0, 1) := by decide +kernel
theorem dX0_init_28 : decode cX0_init 28 = .ok (.putfield 22, 3) := by decide +kernel
theorem dX0_init_31 : decode cX0_init 31 = .ok (.aload_n 0, 1) := by decide +kernel
theorem dX0_init_32 : decode cX0_init 32 = .ok (.iconst 0, 1) := by decide +kernel
theorem dX0_init_33 : decode cX0_init 33 = .ok (.putfield 26, 3) := by decide +kernel
theorem dX0_init_36 : decode cX0_init 36 = .ok (.aload_n 0, 1) := by decide +kernel
theorem dX0_init_37 : decode cX0_init 37 = .ok (.iconst 0, 1) := by decide +kernel
theorem dX0_init_38 : decode cX0_init 38 = .ok (.putfield 29, 3) := by decide +kernel
theorem dX0_init_41 : decode cX0_init 41 = .ok (.aload_n 0, 1) := by decide +kernel
theorem dX0_init_42 : decode cX0_init 42 = .ok (.aload_n 1, 1) := by decide +kernel
theorem dX0_init_43 : decode cX0_init 43 = .ok (.putfield 32, 3) := by decide +kernel
theorem dX0_init_46 : decode cX0_init 46 = .ok (.aload_n 0, 1) := by decide +kernel
theorem dX0_init_47 : decode cX0_init 47 = .ok (.aload_n 2, 1) := by decide +kernel
theorem dX0_init_48 : decode cX0_init 48 = .ok (.putfield 36, 3) := by decide +kernel
theorem dX0_init_51 : decode cX0_init 51 = .ok (.aload_n 0, 1) := by decide +kernel
theorem dX0_init_52 : decode cX0_init 52 = .ok (.aload_n 3, 1) := by decide +kernel
theorem dX0_init_53 : decode cX0_init 53 = .ok (.putfield 40, 3) := by decide +kernel
theorem dX0_init_56 : decode cX0_init 56 = .ok (.return_, 1) := by decide +kernel
theorem dX0_open_0 : decode cX0_open 0 = .ok (.aload_n 0, 1) := by decide +kernel
theorem dX0_open_1 : decode cX0_open 1 = .ok (.aload_n 1, 1) := by decide +kernel
theorem dX0_open_2 : decode cX0_open 2 = .ok (.putfield 18, 3) := by decide +kernel
theorem dX0_open_5 : decode cX0_open 5 = .ok (.aload_n 0, 1) := by decide +kernel
theorem dX0_open_6 : decode cX0_open 6 = .ok (.iload_n 2, 1) := by decide +kernel
theorem dX0_open_7 : decode cX0_open 7 = .ok (.putfield 22, 3) := by decide +kernel
theorem dX0_open_10 : decode cX0_open 10 = .ok (.aload_n 0, 1) := by decide +kernel
theorem dX0_open_11 : decode cX0_open 11 = .ok (.aload_n 0, 1) := by decide +kernel
theorem dX0_open_12 : decode cX0_open 12 = .ok (.getfield 32, 3) := by decide +kernel
theorem dX0_open_15 : decode cX0_open 15 = .ok (.getfield 44, 3) := by decide +kernel
theorem dX0_open_18 : decode cX0_open 18 = .ok (.putfield 26, 3) := by decide +kernel
theorem dX0_open_21 : decode cX0_open 21 = .ok (.aload_n 0, 1) := by decide +kernel
theorem dX0_open_22 : decode cX0_open 22 = .ok (.getfield 32, 3) := by decide +kernel
theorem dX0_open_25 : decode cX0_open 25 = .ok (.getfield 47, 3) := by decide +kernel
theorem dX0_open_28 : decode cX0_open 28 = .ok (.iconst 0, 1) := by decide +kernel
theorem dX0_open_29 : decode cX0_open 29 = .ok (.aload_n 0, 1) := by decide +kernel
theorem dX0_open_30 : decode cX0_open 30 = .ok (.getfield 9, 3) := by decide +kernel
theorem dX0_open_33 : decode cX0_open 33 = .ok (.iconst 0, 1) := by decide +kernel
theorem dX0_open_34 : decode cX0_open 34 = .ok (.bipush 12, 2) := by decide +kernel
theorem dX0_open_36 : decode cX0_open 36 = .ok (.invokestatic 50, 3) := by decide +kernel
theorem dX0_open_39 : decode cX0_open 39 = .ok (.iconst 0, 1) := by decide +kernel
theorem dX0_open_40 : decode cX0_open 40 = .ok (.istore_n 3, 1) := by decide +kernel
theorem dX0_open_41 : decode cX0_open 41 = .ok (.iload_n 3, 1) := by decide +kernel
theorem dX0_open_42 : decode cX0_open 42 = .ok (.sipush 768, 3) := by decide +kernel
theorem dX0_open_45 : decode cX0_open 45 = .ok (.if_icmp .ge 16, 3) := by decide +kernel
theorem dX0_open_48 : decode cX0_open 48 = .ok (.aload_n 0, 1) := by decide +kernel
theorem dX0_open_49 : decode cX0_open 49 = .ok (.getfield 15, 3) := by decide +kernel
theorem dX0_open_52 : decode cX0_open 52 = .ok (.iload_n 3, 1) := by decide +kernel
theorem dX0_open_53 : decode cX0_open 53 = .ok (.iconst (-1), 1) := by decide +kernel
theorem dX0_open_54 : decode cX0_open 54 = .ok (.iastore, 1) := by decide +kernel
theorem dX0_open_55 : decode cX0_open 55 = .ok (.iinc 3 1, 3) := by decide +kernel
theorem dX0_open_58 : decode cX0_open 58 = .ok (.goto (-17), 3) := by decide +kernel
theorem dX0_open_61 : decode cX0_open 61 = .ok (.return_, 1) := by decide +kernel
theorem dX0_voteOfNextDay_0 : decode cX0_voteOfNextDay 0 = .ok (.aload_n 0, 1) := by decide +kernel
theorem dX0_voteOfNextDay_1 : decode cX0_voteOfNextDay 1 = .ok (.aload_n 0, 1) := by decide +kernel
theorem dX0_voteOfNextDay_2 : decode cX0_voteOfNextDay 2 = .ok (.getfield 26, 3) := by decide +kernel
theorem dX0_voteOfNextDay_5 : decode cX0_voteOfNextDay 5 = .ok (.invokestatic 56, 3) := by decide +kernel
theorem dX0_voteOfNextDay_8 : decode cX0_voteOfNextDay 8 = .ok (.putfield 26, 3) := by decide +kernel
theorem dX0_voteOfNextDay_11 : decode cX0_voteOfNextDay 11 = .ok (.aload_n 0, 1) := by decide +kernel
theorem dX0_voteOfNextDay_12 : decode cX0_voteOfNextDay 12 = .ok (.aload_n 0, 1) := by decide +kernel
theorem dX0_voteOfNextDay_13 : decode cX0_voteOfNextDay 13 = .ok (.getfield 26, 3) := by decide +kernel
theorem dX0_voteOfNextDay_16 : decode cX0_voteOfNextDay 16 = .ok (.ldc 60, 2) := by decide +kernel
theorem dX0_voteOfNextDay_18 : decode cX0_voteOfNextDay 18 = .ok (.idiv, 1) := by decide +kernel
theorem dX0_voteOfNextDay_19 : decode cX0_voteOfNextDay 19 = .ok (.bipush 8, 2) := by decide +kernel
theorem dX0_voteOfNextDay_21 : decode cX0_voteOfNextDay 21 = .ok (.irem, 1) := by decide +kernel
theorem dX0_voteOfNextDay_22 : decode cX0_voteOfNextDay 22 = .ok (.putfield 29, 3) := by decide +kernel
theorem dX0_voteOfNextDay_25 : decode cX0_voteOfNextDay 25 = .ok (.iconst 0, 1) := by decide +kernel
theorem dX0_voteOfNextDay_26 : decode cX0_voteOfNextDay 26 = .ok (.istore_n 2, 1) := by decide +kernel
theorem dX0_voteOfNextDay_27 : decode cX0_voteOfNextDay 27 = .ok (.iload_n 2, 1) := by decide +kernel
theorem dX0_voteOfNextDay_28 : decode cX0_voteOfNextDay 28 = .ok (.aload_n 0, 1) := by decide +kernel
theorem dX0_voteOfNextDay_29 : decode cX0_voteOfNextDay 29 = .ok (.getfield 32, 3) := by decide +kernel
theorem dX0_voteOfNextDay_32 : decode cX0_voteOfNextDay 32 = .ok (.getfield 61, 3) := by decide +kernel
theorem dX0_voteOfNextDay_35 : decode cX0_voteOfNextDay 35 = .ok (.if_icmp .ge 35, 3) := by decide +kernel
theorem dX0_voteOfNextDay_38 : decode cX0_voteOfNextDay 38 = .ok (.iload_n 2, 1) := by decide +kernel
theorem dX0_voteOfNextDay_39 : decode cX0_voteOfNextDay 39 = .ok (.bipush 12, 2) := by decide +kernel
theorem dX0_voteOfNextDay_41 : decode cX0_voteOfNextDay 41 = .ok (.if_icmp .ge 29, 3) := by decide +kernel
theorem dX0_voteOfNextDay_44 : decode cX0_voteOfNextDay 44 = .ok (.aload_n 0, 1) := by decide +kernel
theorem dX0_voteOfNextDay_45 : decode cX0_voteOfNextDay 45 = .ok (.getfield 9, 3) := by decide +kernel
theorem dX0_voteOfNextDay_48 : decode cX0_voteOfNextDay 48 = .ok (.iload_n 2, 1) := by decide +kernel
theorem dX0_voteOfNextDay_49 : decode cX0_voteOfNextDay 49 = .ok (.aload_n 0, 1) := by decide +kernel
theorem dX0_voteOfNextDay_50 : decode cX0_voteOfNextDay 50 = .ok (.iload_n 2, 1) := by decide +kernel
theorem dX0_voteOfNextDay_51 : decode cX0_voteOfNextDay 51 = .ok (.aload_n 0, 1) := by decide +kernel
theorem dX0_voteOfNextDay_52 : decode cX0_voteOfNextDay 52 = .ok (.getfield 9, 3) := by decide +kernel
theorem dX0_voteOfNextDay_55 : decode cX0_voteOfNextDay 55 = .ok (.iload_n 2, 1) := by decide +kernel
theorem dX0_voteOfNextDay_56 : decode cX0_voteOfNextDay 56 = .ok (.iaload, 1) := by decide +kernel
theorem dX0_voteOfNextDay_57 : decode cX0_voteOfNextDay 57 = .ok (.bipush 7, 2) := by decide +kernel
theorem dX0_voteOfNextDay_59 : decode cX0_voteOfNextDay 59 = .ok (.iand, 1) := by decide +kernel
theorem dX0_voteOfNextDay_60 : decode cX0_voteOfNextDay 60 = .ok (.invokevirtual 64, 3) := by decide +kernel
theorem dX0_voteOfNextDay_63 : decode cX0_voteOfNextDay 63 = .ok (.iastore, 1) := by decide +kernel
theorem dX0_voteOfNextDay_64 : decode cX0_voteOfNextDay 64 = .ok (.iinc 2 1, 3) := by decide +kernel
theorem dX0_voteOfNextDay_67 : decode cX0_voteOfNextDay 67 = .ok (.goto (-40), 3) := by decide +kernel
theorem dX0_voteOfNextDay_70 : decode cX0_voteOfNextDay 70 = .ok (.aload_n 0, 1) := by decide +kernel
theorem dX0_voteOfNextDay_71 : decode cX0_voteOfNextDay 71 = .ok (.getfield 40, 3) := by decide +kernel
theorem dX0_voteOfNextDay_74 : decode cX0_voteOfNextDay 74 = .ok (.aload_n 0, 1) := by decide +kernel
theorem dX0_voteOfNextDay_75 : decode cX0_voteOfNextDay 75 = .ok (.getfield 32, 3) := by decide +kernel
theorem dX0_voteOfNextDay_78 : decode cX0_voteOfNextDay 78 = .ok (.aload_n 0, 1) := by decide +kernel
theorem dX0_voteOfNextDay_79 : decode cX0_voteOfNextDay 79 = .ok (.getfield 9, 3) := by decide +kernel
theorem dX0_voteOfNextDay_82 : decode cX0_voteOfNextDay 82 = .ok (.invokevirtual 68, 3) := by decide +kernel
theorem dX0_voteOfNextDay_85 : decode cX0_voteOfNextDay 85 = .ok (.aload_n 0, 1) := by decide +kernel
theorem dX0_voteOfNextDay_86 : decode cX0_voteOfNextDay 86 = .ok (.getfield 40, 3) := by decide +kernel
theorem dX0_voteOfNextDay_89 : decode cX0_voteOfNextDay 89 = .ok (.iload_n 1, 1) := by decide +kernel
theorem dX0_voteOfNextDay_90 : decode cX0_voteOfNextDay 90 = .ok (.invokevirtual 74, 3) := by decide +kernel
theorem dX0_voteOfNextDay_93 : decode cX0_voteOfNextDay 93 = .ok (.ireturn, 1) := by decide +kernel
theorem dX0_evening_0 : decode cX0_evening 0 = .ok (.iload_n 1, 1) := by decide +kernel
theorem dX0_evening_1 : decode cX0_evening 1 = .ok (.bipush 8, 2) := by decide +kernel
theorem dX0_evening_3 : decode cX0_evening 3 = .ok (.imul, 1) := by decide +kernel
theorem dX0_evening_4 : decode cX0_evening 4 = .ok (.iload_n 2, 1) := by decide +kernel
theorem dX0_evening_5 : decode cX0_evening 5 = .ok (.iadd, 1) := by decide +kernel
theorem dX0_evening_6 : decode cX0_evening 6 = .ok (.bipush 8, 2) := by decide +kernel
theorem dX0_evening_8 : decode cX0_evening 8 = .ok (.imul, 1) := by decide +kernel
theorem dX0_evening_9 : decode cX0_evening 9 = .ok (.aload_n 0, 1) := by decide +kernel
theorem dX0_evening_10 : decode cX0_evening 10 = .ok (.getfield 29, 3) := by decide +kernel
theorem dX0_evening_13 : decode cX0_evening 13 = .ok (.bipush 7, 2) := by decide +kernel
theorem dX0_evening_15 : decode cX0_evening 15 = .ok (.iand, 1) := by decide +kernel
theorem dX0_evening_16 : decode cX0_evening 16 = .ok (.iadd, 1) := by decide +kernel
theorem dX0_evening_17 : decode cX0_evening 17 = .ok (.istore_n 3, 1) := by decide +kernel
theorem dX0_evening_18 : decode cX0_evening 18 = .ok (.iload_n 3, 1) := by decide +kernel
theorem dX0_evening_19 : decode cX0_evening 19 = .ok (.ifCond .lt 12, 3) := by decide +kernel
theorem dX0_evening_22 : decode cX0_evening 22 = .ok (.iload_n 3, 1) := by decide +kernel
theorem dX0_evening_23 : decode cX0_evening 23 = .ok (.aload_n 0, 1) := by decide +kernel
theorem dX0_evening_24 : decode cX0_evening 24 = .ok (.getfield 15, 3) := by decide +kernel
theorem dX0_evening_27 : decode cX0_evening 27 = .ok (.arraylength, 1) := by decide +kernel
theorem dX0_evening_28 : decode cX0_evening 28 = .ok (.if_icmp .lt 5, 3) := by decide +kernel
theorem dX0_evening_31 : decode cX0_evening 31 = .ok (.iload_n 2, 1) := by decide +kernel
theorem dX0_evening_32 : decode cX0_evening 32 = .ok (.ireturn, 1) := by decide +kernel
theorem dX0_evening_33 : decode cX0_evening 33 = .ok (.aload_n 0, 1) := by decide +kernel
theorem dX0_evening_34 : decode cX0_evening 34 = .ok (.getfield 15, 3) := by decide +kernel
theorem dX0_evening_37 : decode cX0_evening 37 = .ok (.iload_n 3, 1) := by decide +kernel
theorem dX0_evening_38 : decode cX0_evening 38 = .ok (.iaload, 1) := by decide +kernel
theorem dX0_evening_39 : decode cX0_evening 39 = .ok (.ifCond .ge 48, 3) := by decide +kernel
theorem dX0_evening_42 : decode cX0_evening 42 = .ok (.aload_n 0, 1) := by decide +kernel
theorem dX0_evening_43 : decode cX0_evening 43 = .ok (.getfield 36, 3) := by decide +kernel
theorem dX0_evening_46 : decode cX0_evening 46 = .ok (.aload_n 0, 1) := by decide +kernel
theorem dX0_evening_47 : decode cX0_evening 47 = .ok (.getfield 32, 3) := by decide +kernel
theorem dX0_evening_50 : decode cX0_evening 50 = .ok (.iload_n 1, 1) := by decide +kernel
theorem dX0_evening_51 : decode cX0_evening 51 = .ok (.aload_n 0, 1) := by decide +kernel
theorem dX0_evening_52 : decode cX0_evening 52 = .ok (.getfield 29, 3) := by decide +kernel
theorem dX0_evening_55 : decode cX0_evening 55 = .ok (.aload_n 0, 1) := by decide +kernel
theorem dX0_evening_56 : decode cX0_evening 56 = .ok (.getfield 32, 3) := by decide +kernel
theorem dX0_evening_59 : decode cX0_evening 59 = .ok (.getfield 77, 3) := by decide +kernel
theorem dX0_evening_62 : decode cX0_evening 62 = .ok (.invokevirtual 80, 3) := by decide +kernel
theorem dX0_evening_65 : decode cX0_evening 65 = .ok (.aload_n 0, 1) := by decide +kernel
theorem dX0_evening_66 : decode cX0_evening 66 = .ok (.getfield 15, 3) := by decide +kernel
theorem dX0_evening_69 : decode cX0_evening 69 = .ok (.iload_n 3, 1) := by decide +kernel
theorem dX0_evening_70 : decode cX0_evening 70 = .ok (.aload_n 0, 1) := by decide +kernel
theorem dX0_evening_71 : decode cX0_evening 71 = .ok (.getfield 36, 3) := by decide +kernel
theorem dX0_evening_74 : decode cX0_evening 74 = .ok (.aload_n 0, 1) := by decide +kernel
theorem dX0_evening_75 : decode cX0_evening 75 = .ok (.getfield 18, 3) := by decide +kernel
theorem dX0_evening_78 : decode cX0_evening 78 = .ok (.iload_n 2, 1) := by decide +kernel
theorem dX0_evening_79 : decode cX0_evening 79 = .ok (.aload_n 0, 1) := by decide +kernel
theorem dX0_evening_80 : decode cX0_evening 80 = .ok (.getfield 22, 3) := by decide +kernel
theorem dX0_evening_83 : decode cX0_evening 83 = .ok (.invokevirtual 86, 3) := by decide +kernel
theorem dX0_evening_86 : decode cX0_evening 86 = .ok (.iastore, 1) := by decide +kernel
theorem dX0_evening_87 : decode cX0_evening 87 = .ok (.aload_n 0, 1) := by decide +kernel
theorem dX0_evening_88 : decode cX0_evening 88 = .ok (.getfield 15, 3) := by decide +kernel
theorem dX0_evening_91 : decode cX0_evening 91 = .ok (.iload_n 3, 1) := by decide +kernel
theorem dX0_evening_92 : decode cX0_evening 92 = .ok (.iaload, 1) := by decide +kernel
theorem dX0_evening_93 : decode cX0_evening 93 = .ok (.ireturn, 1) := by decide +kernel
theorem dX1_init_0 : decode cX1_init 0 = .ok (.aload_n 0, 1) := by decide +kernel
theorem dX1_init_1 : decode cX1_init 1 = .ok (.invokespecial 3, 3) := by decide +kernel
theorem dX1_init_4 : decode cX1_init 4 = .ok (.aload_n 0, 1) := by decide +kernel
theorem dX1_init_5 : decode cX1_init 5 = .ok (.iconst 0, 1) := by decide +kernel
theorem dX1_init_6 : decode cX1_init 6 = .ok (.putfield 9, 3) := by decide +kernel
theorem dX1_init_9 : decode cX1_init 9 = .ok (.aload_n 0, 1) := by decide +kernel
theorem dX1_init_10 : decode cX1_init 10 = .ok (.bipush 12, 2) := by decide +kernel
theorem dX1_init_12 : decode cX1_init 12 = .ok (.newarray .int, 2) := by decide +kernel
theorem dX1_init_14 : decode cX1_init 14 = .ok (.putfield 15, 3) := by decide +kernel
theorem dX1_init_17 : decode cX1_init 17 = .ok (.aload_n 0, 1) := by decide +kernel
theorem dX1_init_18 : decode cX1_init 18 = .ok (.bipush 12, 2) := by decide +kernel
theorem dX1_init_20 : decode cX1_init 20 = .ok (.newarray .int, 2) := by decide +kernel
theorem dX1_init_22 : decode cX1_init 22 = .ok (.putfield 19, 3) := by decide +kernel
theorem dX1_init_25 : decode cX1_init 25 = .ok (.aload_n 0, 1) := by decide +kernel
theorem dX1_init_26 : decode cX1_init 26 = .ok (.bipush 8, 2) := by decide +kernel
theorem dX1_init_28 : decode cX1_init 28 = .ok (.newarray .int, 2) := by decide +kernel
theorem dX1_init_30 : decode cX1_init 30 = .ok (.putfield 22, 3) := by decide +kernel
theorem dX1_init_33 : decode cX1_init 33 = .ok (.aload_n 0, 1) := by decide +kernel
theorem dX1_init_34 : decode cX1_init 34 = .ok (.bipush 8, 2) := by decide +kernel
theorem dX1_init_36 : decode cX1_init 36 = .ok (.newarray .int, 2) := by decide +kernel
theorem dX1_init_38 : decode cX1_init 38 = .ok (.putfield 25, 3) := by decide +kernel
theorem dX1_init_41 : decode cX1_init 41 = .ok (.aload_n 0, 1) := by decide +kernel
theorem dX1_init_42 : decode cX1_init 42 = .ok (.bipush 8, 2) := by decide +kernel
theorem dX1_init_44 : decode cX1_init 44 = .ok (.newarray .int, 2) := by decide +kernel
theorem dX1_init_46 : decode cX1_init 46 = .ok (.putfield 28, 3) := by decide +kernel
theorem dX1_init_49 : decode cX1_init 49 = .ok (.return_, 1) := by decide +kernel
theorem dX1_open_0 : decode cX1_open 0 = .ok (.aload_n 0, 1) := by decide +kernel
theorem dX1_open_1 : decode cX1_open 1 = .ok (.aload_n 1, 1) := by decide +kernel
theorem dX1_open_2 : decode cX1_open 2 = .ok (.getfield 31, 3) := by decide +kernel
theorem dX1_open_5 : decode cX1_open 5 = .ok (.bipush 12, 2) := by decide +kernel
theorem dX1_open_7 : decode cX1_open 7 = .ok (.aload_n 2, 1) := by decide +kernel
theorem dX1_open_8 : decode cX1_open 8 = .ok (.arraylength, 1) := by decide +kernel
theorem dX1_open_9 : decode cX1_open 9 = .ok (.invokestatic 34, 3) := by decide +kernel
theorem dX1_open_12 : decode cX1_open 12 = .ok (.invokestatic 34, 3) := by decide +kernel
theorem dX1_open_15 : decode cX1_open 15 = .ok (.putfield 9, 3) := by decide +kernel
theorem dX1_open_18 : decode cX1_open 18 = .ok (.iconst 0, 1) := by decide +kernel
theorem dX1_open_19 : decode cX1_open 19 = .ok (.istore_n 3, 1) := by decide +kernel
theorem dX1_open_20 : decode cX1_open 20 = .ok (.iload_n 3, 1) := by decide +kernel
theorem dX1_open_21 : decode cX1_open 21 = .ok (.bipush 8, 2) := by decide +kernel
theorem dX1_open_23 : decode cX1_open 23 = .ok (.if_icmp .ge 23, 3) := by decide +kernel
theorem dX1_open_26 : decode cX1_open 26 = .ok (.aload_n 0, 1) := by decide +kernel
theorem dX1_open_27 : decode cX1_open 27 = .ok (.getfield 22, 3) := by decide +kernel
theorem dX1_open_30 : decode cX1_open 30 = .ok (.iload_n 3, 1) := by decide +kernel
theorem dX1_open_31 : decode cX1_open 31 = .ok (.iconst 0, 1) := by decide +kernel
theorem dX1_open_32 : decode cX1_open 32 = .ok (.iastore, 1) := by decide +kernel
theorem dX1_open_33 : decode cX1_open 33 = .ok (.aload_n 0, 1) := by decide +kernel
theorem dX1_open_34 : decode cX1_open 34 = .ok (.getfield 25, 3) := by decide +kernel
theorem dX1_open_37 : decode cX1_open 37 = .ok (.iload_n 3, 1) := by decide +kernel
theorem dX1_open_38 : decode cX1_open 38 = .ok (.iconst 0, 1) := by decide +kernel
theorem dX1_open_39 : decode cX1_open 39 = .ok (.iastore, 1) := by decide +kernel
theorem dX1_open_40 : decode cX1_open 40 = .ok (.iinc 3 1, 3) := by decide +kernel
theorem dX1_open_43 : decode cX1_open 43 = .ok (.goto (-23), 3) := by decide +kernel
theorem dX1_open_46 : decode cX1_open 46 = .ok (.iconst 0, 1) := by decide +kernel
theorem dX1_open_47 : decode cX1_open 47 = .ok (.istore_n 3, 1) := by decide +kernel
theorem dX1_open_48 : decode cX1_open 48 = .ok (.iload_n 3, 1) := by decide +kernel
theorem dX1_open_49 : decode cX1_open 49 = .ok (.aload_n 0, 1) := by decide +kernel
theorem dX1_open_50 : decode cX1_open 50 = .ok (.getfield 9, 3) := by decide +kernel
theorem dX1_open_53 : decode cX1_open 53 = .ok (.if_icmp .ge 36, 3) := by decide +kernel
theorem dX1_open_56 : decode cX1_open 56 = .ok (.aload_n 0, 1) := by decide +kernel
theorem dX1_open_57 : decode cX1_open 57 = .ok (.getfield 15, 3) := by decide +kernel
theorem dX1_open_60 : decode cX1_open 60 = .ok (.iload_n 3, 1) := by decide +kernel
theorem dX1_open_61 : decode cX1_open 61 = .ok (.aload_n 1, 1) := by decide +kernel
theorem dX1_open_62 : decode cX1_open 62 = .ok (.getfield 40, 3) := by decide +kernel
theorem dX1_open_65 : decode cX1_open 65 = .ok (.iload_n 3, 1) := by decide +kernel
theorem dX1_open_66 : decode cX1_open 66 = .ok (.iaload, 1) := by decide +kernel
theorem dX1_open_67 : decode cX1_open 67 = .ok (.iastore, 1) := by decide +kernel
theorem dX1_open_68 : decode cX1_open 68 = .ok (.aload_n 0, 1) := by decide +kernel
theorem dX1_open_69 : decode cX1_open 69 = .ok (.getfield 19, 3) := by decide +kernel
theorem dX1_open_72 : decode cX1_open 72 = .ok (.iload_n 3, 1) := by decide +kernel
theorem dX1_open_73 : decode cX1_open 73 = .ok (.aload_n 2, 1) := by decide +kernel
theorem dX1_open_74 : decode cX1_open 74 = .ok (.iload_n 3, 1) := by decide +kernel
theorem dX1_open_75 : decode cX1_open 75 = .ok (.iaload, 1) := by decide +kernel
theorem dX1_open_76 : decode cX1_open 76 = .ok (.iastore, 1) := by decide +kernel
theorem dX1_open_77 : decode cX1_open 77 = .ok (.aload_n 0, 1) := by decide +kernel
theorem dX1_open_78 : decode cX1_open 78 = .ok (.iload_n 3, 1) := by decide +kernel
theorem dX1_open_79 : decode cX1_open 79 = .ok (.iconst 1, 1) := by decide +kernel
theorem dX1_open_80 : decode cX1_open 80 = .ok (.invokevirtual 43, 3) := by decide +kernel
theorem dX1_open_83 : decode cX1_open 83 = .ok (.iinc 3 1, 3) := by decide +kernel
theorem dX1_open_86 : decode cX1_open 86 = .ok (.goto (-38), 3) := by decide +kernel
theorem dX1_open_89 : decode cX1_open 89 = .ok (.return_, 1) := by decide +kernel
theorem dX1_put_0 : decode cX1_put 0 = .ok (.iload_n 1, 1) := by decide +kernel
theorem dX1_put_1 : decode cX1_put 1 = .ok (.bipush 12, 2) := by decide +kernel
theorem dX1_put_3 : decode cX1_put 3 = .ok (.invokestatic 47, 3) := by decide +kernel
theorem dX1_put_6 : decode cX1_put 6 = .ok (.ifCond .eq 30, 3) := by decide +kernel
theorem dX1_put_9 : decode cX1_put 9 = .ok (.iload_n 1, 1) := by decide +kernel
theorem dX1_put_10 : decode cX1_put 10 = .ok (.aload_n 0, 1) := by decide +kernel
theorem dX1_put_11 : decode cX1_put 11 = .ok (.getfield 9, 3) := by decide +kernel
theorem dX1_put_14 : decode cX1_put 14 = .ok (.if_icmp .ge 22, 3) := by decide +kernel
theorem dX1_put_17 : decode cX1_put 17 = .ok (.aload_n 0, 1) := by decide +kernel
theorem dX1_put_18 : decode cX1_put 18 = .ok (.iload_n 1, 1) := by decide +kernel
theorem dX1_put_19 : decode cX1_put 19 = .ok (.iconst (-1), 1) := by decide +kernel
theorem dX1_put_20 : decode cX1_put 20 = .ok (.invokevirtual 43, 3) := by decide +kernel
theorem dX1_put_23 : decode cX1_put 23 = .ok (.aload_n 0, 1) := by decide +kernel
theorem dX1_put_24 : decode cX1_put 24 = .ok (.getfield 19, 3) := by decide +kernel
theorem dX1_put_27 : decode cX1_put 27 = .ok (.iload_n 1, 1) := by decide +kernel
theorem dX1_put_28 : decode cX1_put 28 = .ok (.iload_n 2, 1) := by decide +kernel
theorem dX1_put_29 : decode cX1_put 29 = .ok (.iastore, 1) := by decide +kernel
theorem dX1_put_30 : decode cX1_put 30 = .ok (.aload_n 0, 1) := by decide +kernel
theorem dX1_put_31 : decode cX1_put 31 = .ok (.iload_n 1, 1) := by decide +kernel
theorem dX1_put_32 : decode cX1_put 32 = .ok (.iconst 1, 1) := by decide +kernel
theorem dX1_put_33 : decode cX1_put 33 = .ok (.invokevirtual 43, 3) := by decide +kernel
theorem dX1_put_36 : decode cX1_put 36 = .ok (.return_, 1) := by decide +kernel
theorem dX1_winner_0 : decode cX1_winner 0 = .ok (.iload_n 1, 1) := by decide +kernel
theorem dX1_winner_1 : decode cX1_winner 1 = .ok (.tableswitch 50 0 2 #[27, 36, 45], 27) := by decide +kernel
theorem dX1_winner_28 : decode cX1_winner 28 = .ok (.aload_n 0, 1) := by decide +kernel
theorem dX1_winner_29 : decode cX1_winner 29 = .ok (.aload_n 0, 1) := by decide +kernel
theorem dX1_winner_30 : decode cX1_winner 30 = .ok (.getfield 22, 3) := by decide +kernel
theorem dX1_winner_33 : decode cX1_winner 33 = .ok (.invokevirtual 51, 3) := by decide +kernel
theorem dX1_winner_36 : decode cX1_winner 36 = .ok (.ireturn, 1) := by decide +kernel
theorem dX1_winner_37 : decode cX1_winner 37 = .ok (.aload_n 0, 1) := by decide +kernel
theorem dX1_winner_38 : decode cX1_winner 38 = .ok (.aload_n 0, 1) := by decide +kernel
theorem dX1_winner_39 : decode cX1_winner 39 = .ok (.getfield 25, 3) := by decide +kernel
theorem dX1_winner_42 : decode cX1_winner 42 = .ok (.invokevirtual 51, 3) := by decide +kernel
theorem dX1_winner_45 : decode cX1_winner 45 = .ok (.ireturn, 1) := by decide +kernel
theorem dX1_winner_46 : decode cX1_winner 46 = .ok (.aload_n 0, 1) := by decide +kernel
theorem dX1_winner_47 : decode cX1_winner 47 = .ok (.invokevirtual 55, 3) := by decide +kernel
theorem dX1_winner_50 : decode cX1_winner 50 = .ok (.ireturn, 1) := by decide +kernel
theorem dX1_winner_51 : decode cX1_winner 51 = .ok (.aload_n 0, 1) := by decide +kernel
theorem dX1_winner_52 : decode cX1_winner 52 = .ok (.invokevirtual 59, 3) := by decide +kernel
theorem dX1_winner_55 : decode cX1_winner 55 = .ok (.ireturn, 1) := by decide +kernel
theorem dX1_tally_0 : decode cX1_tally 0 = .ok (.aload_n 0, 1) := by decide +kernel
theorem dX1_tally_1 : decode cX1_tally 1 = .ok (.getfield 19, 3) := by decide +kernel
theorem dX1_tally_4 : decode cX1_tally 4 = .ok (.iload_n 1, 1) := by decide +kernel
theorem dX1_tally_5 : decode cX1_tally 5 = .ok (.iaload, 1) := by decide +kernel
theorem dX1_tally_6 : decode cX1_tally 6 = .ok (.bipush 7, 2) := by decide +kernel
theorem dX1_tally_8 : decode cX1_tally 8 = .ok (.iand, 1) := by decide +kernel
theorem dX1_tally_9 : decode cX1_tally 9 = .ok (.istore_n 3, 1) := by decide +kernel
theorem dX1_tally_10 : decode cX1_tally 10 = .ok (.aload_n 0, 1) := by decide +kernel
theorem dX1_tally_11 : decode cX1_tally 11 = .ok (.getfield 22, 3) := by decide +kernel
theorem dX1_tally_14 : decode cX1_tally 14 = .ok (.iload_n 3, 1) := by decide +kernel
theorem dX1_tally_15 : decode cX1_tally 15 = .ok (.dup2, 1) := by decide +kernel
theorem dX1_tally_16 : decode cX1_tally 16 = .ok (.iaload, 1) := by decide +kernel
theorem dX1_tally_17 : decode cX1_tally 17 = .ok (.iload_n 2, 1) := by decide +kernel
theorem dX1_tally_18 : decode cX1_tally 18 = .ok (.iadd, 1) := by decide +kernel
theorem dX1_tally_19 : decode cX1_tally 19 = .ok (.iastore, 1) := by decide +kernel
theorem dX1_tally_20 : decode cX1_tally 20 = .ok (.aload_n 0, 1) := by decide +kernel
theorem dX1_tally_21 : decode cX1_tally 21 = .ok (.getfield 25, 3) := by decide +kernel
theorem dX1_tally_24 : decode cX1_tally 24 = .ok (.iload_n 3, 1) := by decide +kernel
theorem dX1_tally_25 : decode cX1_tally 25 = .ok (.dup2, 1) := by decide +kernel
theorem dX1_tally_26 : decode cX1_tally 26 = .ok (.iaload, 1) := by decide +kernel
theorem dX1_tally_27 : decode cX1_tally 27 = .ok (.iload_n 2, 1) := by decide +kernel
theorem dX1_tally_28 : decode cX1_tally 28 = .ok (.aload_n 0, 1) := by decide +kernel
theorem dX1_tally_29 : decode cX1_tally 29 = .ok (.getfield 15, 3) := by decide +kernel
theorem dX1_tally_32 : decode cX1_tally 32 = .ok (.iload_n 1, 1) := by decide +kernel
theorem dX1_tally_33 : decode cX1_tally 33 = .ok (.iaload, 1) := by decide +kernel
theorem dX1_tally_34 : decode cX1_tally 34 = .ok (.iconst 1, 1) := by decide +kernel
theorem dX1_tally_35 : decode cX1_tally 35 = .ok (.iadd, 1) := by decide +kernel
theorem dX1_tally_36 : decode cX1_tally 36 = .ok (.imul, 1) := by decide +kernel
theorem dX1_tally_37 : decode cX1_tally 37 = .ok (.iadd, 1) := by decide +kernel
theorem dX1_tally_38 : decode cX1_tally 38 = .ok (.iastore, 1) := by decide +kernel
theorem dX1_tally_39 : decode cX1_tally 39 = .ok (.return_, 1) := by decide +kernel
theorem dX1_leader_0 : decode cX1_leader 0 = .ok (.iconst 0, 1) := by decide +kernel
theorem dX1_leader_1 : decode cX1_leader 1 = .ok (.istore_n 2, 1) := by decide +kernel
theorem dX1_leader_2 : decode cX1_leader 2 = .ok (.iconst 0, 1) := by decide +kernel
theorem dX1_leader_3 : decode cX1_leader 3 = .ok (.istore_n 3, 1) := by decide +kernel
theorem dX1_leader_4 : decode cX1_leader 4 = .ok (.iconst 1, 1) := by decide +kernel
theorem dX1_leader_5 : decode cX1_leader 5 = .ok (.istore 4, 2) := by decide +kernel
theorem dX1_leader_7 : decode cX1_leader 7 = .ok (.iload 4, 2) := by decide +kernel
theorem dX1_leader_9 : decode cX1_leader 9 = .ok (.bipush 8, 2) := by decide +kernel
theorem dX1_leader_11 : decode cX1_leader 11 = .ok (.if_icmp .ge 46, 3) := by decide +kernel
theorem dX1_leader_14 : decode cX1_leader 14 = .ok (.aload_n 1, 1) := by decide +kernel
theorem dX1_leader_15 : decode cX1_leader 15 = .ok (.iload 4, 2) := by decide +kernel
theorem dX1_leader_17 : decode cX1_leader 17 = .ok (.iaload, 1) := by decide +kernel
theorem dX1_leader_18 : decode cX1_leader 18 = .ok (.aload_n 1, 1) := by decide +kernel
theorem dX1_leader_19 : decode cX1_leader 19 = .ok (.iload_n 2, 1) := by decide +kernel
theorem dX1_leader_20 : decode cX1_leader 20 = .ok (.iaload, 1) := by decide +kernel
theorem dX1_leader_21 : decode cX1_leader 21 = .ok (.if_icmp .lt 30, 3) := by decide +kernel
theorem dX1_leader_24 : decode cX1_leader 24 = .ok (.aload_n 1, 1) := by decide +kernel
theorem dX1_leader_25 : decode cX1_leader 25 = .ok (.iload 4, 2) := by decide +kernel
theorem dX1_leader_27 : decode cX1_leader 27 = .ok (.iaload, 1) := by decide +kernel
theorem dX1_leader_28 : decode cX1_leader 28 = .ok (.aload_n 1, 1) := by decide +kernel
theorem dX1_leader_29 : decode cX1_leader 29 = .ok (.iload_n 2, 1) := by decide +kernel
theorem dX1_leader_30 : decode cX1_leader 30 = .ok (.iaload, 1) := by decide +kernel
theorem dX1_leader_31 : decode cX1_leader 31 = .ok (.if_icmp .ne 7, 3) := by decide +kernel
theorem dX1_leader_34 : decode cX1_leader 34 = .ok (.iconst 1, 1) := by decide +kernel
theorem dX1_leader_35 : decode cX1_leader 35 = .ok (.goto 4, 3) := by decide +kernel
theorem dX1_leader_38 : decode cX1_leader 38 = .ok (.iconst 0, 1) := by decide +kernel
theorem dX1_leader_39 : decode cX1_leader 39 = .ok (.istore_n 3, 1) := by decide +kernel
theorem dX1_leader_40 : decode cX1_leader 40 = .ok (.iload_n 3, 1) := by decide +kernel
theorem dX1_leader_41 : decode cX1_leader 41 = .ok (.ifCond .eq 7, 3) := by decide +kernel
theorem dX1_leader_44 : decode cX1_leader 44 = .ok (.iload_n 2, 1) := by decide +kernel
theorem dX1_leader_45 : decode cX1_leader 45 = .ok (.goto 5, 3) := by decide +kernel
theorem dX1_leader_48 : decode cX1_leader 48 = .ok (.iload 4, 2) := by decide +kernel
theorem dX1_leader_50 : decode cX1_leader 50 = .ok (.istore_n 2, 1) := by decide +kernel
theorem dX1_leader_51 : decode cX1_leader 51 = .ok (.iinc 4 1, 3) := by decide +kernel
theorem dX1_leader_54 : decode cX1_leader 54 = .ok (.goto (-47), 3) := by decide +kernel
theorem dX1_leader_57 : decode cX1_leader 57 = .ok (.iload_n 3, 1) := by decide +kernel
theorem dX1_leader_58 : decode cX1_leader 58 = .ok (.ifCond .eq 14, 3) := by decide +kernel
theorem dX1_leader_61 : decode cX1_leader 61 = .ok (.aload_n 0, 1) := by decide +kernel
theorem dX1_leader_62 : decode cX1_leader 62 = .ok (.aload_n 1, 1) := by decide +kernel
theorem dX1_leader_63 : decode cX1_leader 63 = .ok (.aload_n 1, 1) := by decide +kernel
theorem dX1_leader_64 : decode cX1_leader 64 = .ok (.iload_n 2, 1) := by decide +kernel
theorem dX1_leader_65 : decode cX1_leader 65 = .ok (.iaload, 1) := by decide +kernel
theorem dX1_leader_66 : decode cX1_leader 66 = .ok (.invokevirtual 62, 3) := by decide +kernel
theorem dX1_leader_69 : decode cX1_leader 69 = .ok (.goto 4, 3) := by decide +kernel
theorem dX1_leader_72 : decode cX1_leader 72 = .ok (.iload_n 2, 1) := by decide +kernel
theorem dX1_leader_73 : decode cX1_leader 73 = .ok (.ireturn, 1) := by decide +kernel
theorem dX1_pointOfOldest_0 : decode cX1_pointOfOldest 0 = .ok (.iconst 0, 1) := by decide +kernel
theorem dX1_pointOfOldest_1 : decode cX1_pointOfOldest 1 = .ok (.istore_n 3, 1) := by decide +kernel
theorem dX1_pointOfOldest_2 : decode cX1_pointOfOldest 2 = .ok (.iconst (-1), 1) := by decide +kernel
theorem dX1_pointOfOldest_3 : decode cX1_pointOfOldest 3 = .ok (.istore 4, 2) := by decide +kernel
theorem dX1_pointOfOldest_5 : decode cX1_pointOfOldest 5 = .ok (.iconst 0, 1) := by decide +kernel
theorem dX1_pointOfOldest_6 : decode cX1_pointOfOldest 6 = .ok (.istore 5, 2) := by decide +kernel
theorem dX1_pointOfOldest_8 : decode cX1_pointOfOldest 8 = .ok (.iload 5, 2) := by decide +kernel
theorem dX1_pointOfOldest_10 : decode cX1_pointOfOldest 10 = .ok (.aload_n 0, 1) := by decide +kernel
theorem dX1_pointOfOldest_11 : decode cX1_pointOfOldest 11 = .ok (.getfield 9, 3) := by decide +kernel
theorem dX1_pointOfOldest_14 : decode cX1_pointOfOldest 14 = .ok (.if_icmp .ge 60, 3) := by decide +kernel
theorem dX1_pointOfOldest_17 : decode cX1_pointOfOldest 17 = .ok (.iload 5, 2) := by decide +kernel
theorem dX1_pointOfOldest_19 : decode cX1_pointOfOldest 19 = .ok (.bipush 12, 2) := by decide +kernel
theorem dX1_pointOfOldest_21 : decode cX1_pointOfOldest 21 = .ok (.if_icmp .ge 53, 3) := by decide +kernel
theorem dX1_pointOfOldest_24 : decode cX1_pointOfOldest 24 = .ok (.aload_n 0, 1) := by decide +kernel
theorem dX1_pointOfOldest_25 : decode cX1_pointOfOldest 25 = .ok (.getfield 19, 3) := by decide +kernel
theorem dX1_pointOfOldest_28 : decode cX1_pointOfOldest 28 = .ok (.iload 5, 2) := by decide +kernel
theorem dX1_pointOfOldest_30 : decode cX1_pointOfOldest 30 = .ok (.iaload, 1) := by decide +kernel
theorem dX1_pointOfOldest_31 : decode cX1_pointOfOldest 31 = .ok (.bipush 7, 2) := by decide +kernel
theorem dX1_pointOfOldest_33 : decode cX1_pointOfOldest 33 = .ok (.iand, 1) := by decide +kernel
theorem dX1_pointOfOldest_34 : decode cX1_pointOfOldest 34 = .ok (.istore 6, 2) := by decide +kernel
theorem dX1_pointOfOldest_36 : decode cX1_pointOfOldest 36 = .ok (.aload_n 1, 1) := by decide +kernel
theorem dX1_pointOfOldest_37 : decode cX1_pointOfOldest 37 = .ok (.iload 6, 2) := by decide +kernel
theorem dX1_pointOfOldest_39 : decode cX1_pointOfOldest 39 = .ok (.iaload, 1) := by decide +kernel
theorem dX1_pointOfOldest_40 : decode cX1_pointOfOldest 40 = .ok (.iload_n 2, 1) := by decide +kernel
theorem dX1_pointOfOldest_41 : decode cX1_pointOfOldest 41 = .ok (.if_icmp .ne 27, 3) := by decide +kernel
theorem dX1_pointOfOldest_44 : decode cX1_pointOfOldest 44 = .ok (.aload_n 0, 1) := by decide +kernel
theorem dX1_pointOfOldest_45 : decode cX1_pointOfOldest 45 = .ok (.getfield 15, 3) := by decide +kernel
theorem dX1_pointOfOldest_48 : decode cX1_pointOfOldest 48 = .ok (.iload 5, 2) := by decide +kernel
theorem dX1_pointOfOldest_50 : decode cX1_pointOfOldest 50 = .ok (.iaload, 1) := by decide +kernel
theorem dX1_pointOfOldest_51 : decode cX1_pointOfOldest 51 = .ok (.iload 4, 2) := by decide +kernel
theorem dX1_pointOfOldest_53 : decode cX1_pointOfOldest 53 = .ok (.if_icmp .le 15, 3) := by decide +kernel
theorem dX1_pointOfOldest_56 : decode cX1_pointOfOldest 56 = .ok (.aload_n 0, 1) := by decide +kernel
theorem dX1_pointOfOldest_57 : decode cX1_pointOfOldest 57 = .ok (.getfield 15, 3) := by decide +kernel
theorem dX1_pointOfOldest_60 : decode cX1_pointOfOldest 60 = .ok (.iload 5, 2) := by decide +kernel
theorem dX1_pointOfOldest_62 : decode cX1_pointOfOldest 62 = .ok (.iaload, 1) := by decide +kernel
theorem dX1_pointOfOldest_63 : decode cX1_pointOfOldest 63 = .ok (.istore 4, 2) := by decide +kernel
theorem dX1_pointOfOldest_65 : decode cX1_pointOfOldest 65 = .ok (.iload 6, 2) := by decide +kernel
theorem dX1_pointOfOldest_67 : decode cX1_pointOfOldest 67 = .ok (.istore_n 3, 1) := by decide +kernel
theorem dX1_pointOfOldest_68 : decode cX1_pointOfOldest 68 = .ok (.iinc 5 1, 3) := by decide +kernel
theorem dX1_pointOfOldest_71 : decode cX1_pointOfOldest 71 = .ok (.goto (-63), 3) := by decide +kernel
theorem dX1_pointOfOldest_74 : decode cX1_pointOfOldest 74 = .ok (.iload_n 3, 1) := by decide +kernel
theorem dX1_pointOfOldest_75 : decode cX1_pointOfOldest 75 = .ok (.ireturn, 1) := by decide +kernel
theorem dX1_middle_0 : decode cX1_middle 0 = .ok (.aload_n 0, 1) := by decide +kernel
theorem dX1_middle_1 : decode cX1_middle 1 = .ok (.getfield 9, 3) := by decide +kernel
theorem dX1_middle_4 : decode cX1_middle 4 = .ok (.iconst 1, 1) := by decide +kernel
theorem dX1_middle_5 : decode cX1_middle 5 = .ok (.isub, 1) := by decide +kernel
theorem dX1_middle_6 : decode cX1_middle 6 = .ok (.iconst 2, 1) := by decide +kernel
theorem dX1_middle_7 : decode cX1_middle 7 = .ok (.idiv, 1) := by decide +kernel
theorem dX1_middle_8 : decode cX1_middle 8 = .ok (.istore_n 1, 1) := by decide +kernel
theorem dX1_middle_9 : decode cX1_middle 9 = .ok (.iconst 0, 1) := by decide +kernel
theorem dX1_middle_10 : decode cX1_middle 10 = .ok (.istore_n 2, 1) := by decide +kernel
theorem dX1_middle_11 : decode cX1_middle 11 = .ok (.iload_n 2, 1) := by decide +kernel
theorem dX1_middle_12 : decode cX1_middle 12 = .ok (.bipush 8, 2) := by decide +kernel
theorem dX1_middle_14 : decode cX1_middle 14 = .ok (.if_icmp .ge 24, 3) := by decide +kernel
theorem dX1_middle_17 : decode cX1_middle 17 = .ok (.iload_n 1, 1) := by decide +kernel
theorem dX1_middle_18 : decode cX1_middle 18 = .ok (.aload_n 0, 1) := by decide +kernel
theorem dX1_middle_19 : decode cX1_middle 19 = .ok (.getfield 22, 3) := by decide +kernel
theorem dX1_middle_22 : decode cX1_middle 22 = .ok (.iload_n 2, 1) := by decide +kernel
theorem dX1_middle_23 : decode cX1_middle 23 = .ok (.iaload, 1) := by decide +kernel
theorem dX1_middle_24 : decode cX1_middle 24 = .ok (.isub, 1) := by decide +kernel
theorem dX1_middle_25 : decode cX1_middle 25 = .ok (.istore_n 1, 1) := by decide +kernel
theorem dX1_middle_26 : decode cX1_middle 26 = .ok (.iload_n 1, 1) := by decide +kernel
theorem dX1_middle_27 : decode cX1_middle 27 = .ok (.ifCond .ge 5, 3) := by decide +kernel
theorem dX1_middle_30 : decode cX1_middle 30 = .ok (.iload_n 2, 1) := by decide +kernel
theorem dX1_middle_31 : decode cX1_middle 31 = .ok (.ireturn, 1) := by decide +kernel
theorem dX1_middle_32 : decode cX1_middle 32 = .ok (.iinc 2 1, 3) := by decide +kernel
theorem dX1_middle_35 : decode cX1_middle 35 = .ok (.goto (-24), 3) := by decide +kernel
theorem dX1_middle_38 : decode cX1_middle 38 = .ok (.iconst 0, 1) := by decide +kernel
theorem dX1_middle_39 : decode cX1_middle 39 = .ok (.ireturn, 1) := by decide +kernel
theorem dX1_lastLeft_0 : decode cX1_lastLeft 0 = .ok (.aload_n 0, 1) := by decide +kernel
theorem dX1_lastLeft_1 : decode cX1_lastLeft 1 = .ok (.getfield 22, 3) := by decide +kernel
theorem dX1_lastLeft_4 : decode cX1_lastLeft 4 = .ok (.iconst 0, 1) := by decide +kernel
theorem dX1_lastLeft_5 : decode cX1_lastLeft 5 = .ok (.aload_n 0, 1) := by decide +kernel
theorem dX1_lastLeft_6 : decode cX1_lastLeft 6 = .ok (.getfield 28, 3) := by decide +kernel
theorem dX1_lastLeft_9 : decode cX1_lastLeft 9 = .ok (.iconst 0, 1) := by decide +kernel
theorem dX1_lastLeft_10 : decode cX1_lastLeft 10 = .ok (.bipush 8, 2) := by decide +kernel
theorem dX1_lastLeft_12 : decode cX1_lastLeft 12 = .ok (.invokestatic 66, 3) := by decide +kernel
theorem dX1_lastLeft_15 : decode cX1_lastLeft 15 = .ok (.iconst 0, 1) := by decide +kernel
theorem dX1_lastLeft_16 : decode cX1_lastLeft 16 = .ok (.istore_n 1, 1) := by decide +kernel
theorem dX1_lastLeft_17 : decode cX1_lastLeft 17 = .ok (.iload_n 1, 1) := by decide +kernel
theorem dX1_lastLeft_18 : decode cX1_lastLeft 18 = .ok (.bipush 8, 2) := by decide +kernel
theorem dX1_lastLeft_20 : decode cX1_lastLeft 20 = .ok (.if_icmp .ge 77, 3) := by decide +kernel
theorem dX1_lastLeft_23 : decode cX1_lastLeft 23 = .ok (.iconst (-1), 1) := by decide +kernel
theorem dX1_lastLeft_24 : decode cX1_lastLeft 24 = .ok (.istore_n 2, 1) := by decide +kernel
theorem dX1_lastLeft_25 : decode cX1_lastLeft 25 = .ok (.iconst 0, 1) := by decide +kernel
theorem dX1_lastLeft_26 : decode cX1_lastLeft 26 = .ok (.istore_n 3, 1) := by decide +kernel
theorem dX1_lastLeft_27 : decode cX1_lastLeft 27 = .ok (.iload_n 3, 1) := by decide +kernel
theorem dX1_lastLeft_28 : decode cX1_lastLeft 28 = .ok (.bipush 8, 2) := by decide +kernel
theorem dX1_lastLeft_30 : decode cX1_lastLeft 30 = .ok (.if_icmp .ge 56, 3) := by decide +kernel
theorem dX1_lastLeft_33 : decode cX1_lastLeft 33 = .ok (.aload_n 0, 1) := by decide +kernel
theorem dX1_lastLeft_34 : decode cX1_lastLeft 34 = .ok (.getfield 28, 3) := by decide +kernel
theorem dX1_lastLeft_37 : decode cX1_lastLeft 37 = .ok (.iload_n 3, 1) := by decide +kernel
theorem dX1_lastLeft_38 : decode cX1_lastLeft 38 = .ok (.iaload, 1) := by decide +kernel
theorem dX1_lastLeft_39 : decode cX1_lastLeft 39 = .ok (.iconst 2, 1) := by decide +kernel
theorem dX1_lastLeft_40 : decode cX1_lastLeft 40 = .ok (.imul, 1) := by decide +kernel
theorem dX1_lastLeft_41 : decode cX1_lastLeft 41 = .ok (.aload_n 0, 1) := by decide +kernel
theorem dX1_lastLeft_42 : decode cX1_lastLeft 42 = .ok (.getfield 9, 3) := by decide +kernel
theorem dX1_lastLeft_45 : decode cX1_lastLeft 45 = .ok (.if_icmp .le 5, 3) := by decide +kernel
theorem dX1_lastLeft_48 : decode cX1_lastLeft 48 = .ok (.iload_n 3, 1) := by decide +kernel
theorem dX1_lastLeft_49 : decode cX1_lastLeft 49 = .ok (.ireturn, 1) := by decide +kernel
theorem dX1_lastLeft_50 : decode cX1_lastLeft 50 = .ok (.aload_n 0, 1) := by decide +kernel
theorem dX1_lastLeft_51 : decode cX1_lastLeft 51 = .ok (.getfield 28, 3) := by decide +kernel
theorem dX1_lastLeft_54 : decode cX1_lastLeft 54 = .ok (.iload_n 3, 1) := by decide +kernel
theorem dX1_lastLeft_55 : decode cX1_lastLeft 55 = .ok (.iaload, 1) := by decide +kernel
theorem dX1_lastLeft_56 : decode cX1_lastLeft 56 = .ok (.ifCond .le 24, 3) := by decide +kernel
theorem dX1_lastLeft_59 : decode cX1_lastLeft 59 = .ok (.iload_n 2, 1) := by decide +kernel
theorem dX1_lastLeft_60 : decode cX1_lastLeft 60 = .ok (.ifCond .lt 18, 3) := by decide +kernel
theorem dX1_lastLeft_63 : decode cX1_lastLeft 63 = .ok (.aload_n 0, 1) := by decide +kernel
theorem dX1_lastLeft_64 : decode cX1_lastLeft 64 = .ok (.getfield 28, 3) := by decide +kernel
theorem dX1_lastLeft_67 : decode cX1_lastLeft 67 = .ok (.iload_n 3, 1) := by decide +kernel
theorem dX1_lastLeft_68 : decode cX1_lastLeft 68 = .ok (.iaload, 1) := by decide +kernel
theorem dX1_lastLeft_69 : decode cX1_lastLeft 69 = .ok (.aload_n 0, 1) := by decide +kernel
theorem dX1_lastLeft_70 : decode cX1_lastLeft 70 = .ok (.getfield 28, 3) := by decide +kernel
theorem dX1_lastLeft_73 : decode cX1_lastLeft 73 = .ok (.iload_n 2, 1) := by decide +kernel
theorem dX1_lastLeft_74 : decode cX1_lastLeft 74 = .ok (.iaload, 1) := by decide +kernel
theorem dX1_lastLeft_75 : decode cX1_lastLeft 75 = .ok (.if_icmp .gt 5, 3) := by decide +kernel
theorem dX1_lastLeft_78 : decode cX1_lastLeft 78 = .ok (.iload_n 3, 1) := by decide +kernel
theorem dX1_lastLeft_79 : decode cX1_lastLeft 79 = .ok (.istore_n 2, 1) := by decide +kernel
theorem dX1_lastLeft_80 : decode cX1_lastLeft 80 = .ok (.iinc 3 1, 3) := by decide +kernel
theorem dX1_lastLeft_83 : decode cX1_lastLeft 83 = .ok (.goto (-56), 3) := by decide +kernel
theorem dX1_lastLeft_86 : decode cX1_lastLeft 86 = .ok (.aload_n 0, 1) := by decide +kernel
theorem dX1_lastLeft_87 : decode cX1_lastLeft 87 = .ok (.iload_n 2, 1) := by decide +kernel
theorem dX1_lastLeft_88 : decode cX1_lastLeft 88 = .ok (.invokevirtual 72, 3) := by decide +kernel
theorem dX1_lastLeft_91 : decode cX1_lastLeft 91 = .ok (.iinc 1 1, 3) := by decide +kernel
theorem dX1_lastLeft_94 : decode cX1_lastLeft 94 = .ok (.goto (-77), 3) := by decide +kernel
theorem dX1_lastLeft_97 : decode cX1_lastLeft 97 = .ok (.iconst 0, 1) := by decide +kernel
theorem dX1_lastLeft_98 : decode cX1_lastLeft 98 = .ok (.ireturn, 1) := by decide +kernel
theorem dX1_strikeOut_0 : decode cX1_strikeOut 0 = .ok (.iload_n 1, 1) := by decide +kernel
theorem dX1_strikeOut_1 : decode cX1_strikeOut 1 = .ok (.bipush 8, 2) := by decide +kernel
theorem dX1_strikeOut_3 : decode cX1_strikeOut 3 = .ok (.invokestatic 47, 3) := by decide +kernel
theorem dX1_strikeOut_6 : decode cX1_strikeOut 6 = .ok (.ifCond .ne 4, 3) := by decide +kernel
theorem dX1_strikeOut_9 : decode cX1_strikeOut 9 = .ok (.return_, 1) := by decide +kernel
theorem dX1_strikeOut_10 : decode cX1_strikeOut 10 = .ok (.iconst 1, 1) := by decide +kernel
theorem dX1_strikeOut_11 : decode cX1_strikeOut 11 = .ok (.istore_n 2, 1) := by decide +kernel
theorem dX1_strikeOut_12 : decode cX1_strikeOut 12 = .ok (.iload_n 2, 1) := by decide +kernel
theorem dX1_strikeOut_13 : decode cX1_strikeOut 13 = .ok (.iconst 4, 1) := by decide +kernel
theorem dX1_strikeOut_14 : decode cX1_strikeOut 14 = .ok (.if_icmp .gt 71, 3) := by decide +kernel
theorem dX1_strikeOut_17 : decode cX1_strikeOut 17 = .ok (.iload_n 1, 1) := by decide +kernel
theorem dX1_strikeOut_18 : decode cX1_strikeOut 18 = .ok (.iload_n 2, 1) := by decide +kernel
theorem dX1_strikeOut_19 : decode cX1_strikeOut 19 = .ok (.iadd, 1) := by decide +kernel
theorem dX1_strikeOut_20 : decode cX1_strikeOut 20 = .ok (.bipush 7, 2) := by decide +kernel
theorem dX1_strikeOut_22 : decode cX1_strikeOut 22 = .ok (.iand, 1) := by decide +kernel
theorem dX1_strikeOut_23 : decode cX1_strikeOut 23 = .ok (.istore_n 3, 1) := by decide +kernel
theorem dX1_strikeOut_24 : decode cX1_strikeOut 24 = .ok (.aload_n 0, 1) := by decide +kernel
theorem dX1_strikeOut_25 : decode cX1_strikeOut 25 = .ok (.getfield 28, 3) := by decide +kernel
theorem dX1_strikeOut_28 : decode cX1_strikeOut 28 = .ok (.iload_n 3, 1) := by decide +kernel
theorem dX1_strikeOut_29 : decode cX1_strikeOut 29 = .ok (.iaload, 1) := by decide +kernel
theorem dX1_strikeOut_30 : decode cX1_strikeOut 30 = .ok (.ifCond .le 7, 3) := by decide +kernel
theorem dX1_strikeOut_33 : decode cX1_strikeOut 33 = .ok (.iload_n 3, 1) := by decide +kernel
theorem dX1_strikeOut_34 : decode cX1_strikeOut 34 = .ok (.goto 9, 3) := by decide +kernel
theorem dX1_strikeOut_37 : decode cX1_strikeOut 37 = .ok (.iload_n 1, 1) := by decide +kernel
theorem dX1_strikeOut_38 : decode cX1_strikeOut 38 = .ok (.iload_n 2, 1) := by decide +kernel
theorem dX1_strikeOut_39 : decode cX1_strikeOut 39 = .ok (.isub, 1) := by decide +kernel
theorem dX1_strikeOut_40 : decode cX1_strikeOut 40 = .ok (.bipush 7, 2) := by decide +kernel
theorem dX1_strikeOut_42 : decode cX1_strikeOut 42 = .ok (.iand, 1) := by decide +kernel
theorem dX1_strikeOut_43 : decode cX1_strikeOut 43 = .ok (.istore 4, 2) := by decide +kernel
theorem dX1_strikeOut_45 : decode cX1_strikeOut 45 = .ok (.aload_n 0, 1) := by decide +kernel
theorem dX1_strikeOut_46 : decode cX1_strikeOut 46 = .ok (.getfield 28, 3) := by decide +kernel
theorem dX1_strikeOut_49 : decode cX1_strikeOut 49 = .ok (.iload 4, 2) := by decide +kernel
theorem dX1_strikeOut_51 : decode cX1_strikeOut 51 = .ok (.iaload, 1) := by decide +kernel
theorem dX1_strikeOut_52 : decode cX1_strikeOut 52 = .ok (.ifCond .le 27, 3) := by decide +kernel
theorem dX1_strikeOut_55 : decode cX1_strikeOut 55 = .ok (.aload_n 0, 1) := by decide +kernel
theorem dX1_strikeOut_56 : decode cX1_strikeOut 56 = .ok (.getfield 28, 3) := by decide +kernel
theorem dX1_strikeOut_59 : decode cX1_strikeOut 59 = .ok (.iload 4, 2) := by decide +kernel
theorem dX1_strikeOut_61 : decode cX1_strikeOut 61 = .ok (.dup2, 1) := by decide +kernel
theorem dX1_strikeOut_62 : decode cX1_strikeOut 62 = .ok (.iaload, 1) := by decide +kernel
theorem dX1_strikeOut_63 : decode cX1_strikeOut 63 = .ok (.aload_n 0, 1) := by decide +kernel
theorem dX1_strikeOut_64 : decode cX1_strikeOut 64 = .ok (.getfield 28, 3) := by decide +kernel
theorem dX1_strikeOut_67 : decode cX1_strikeOut 67 = .ok (.iload_n 1, 1) := by decide +kernel
theorem dX1_strikeOut_68 : decode cX1_strikeOut 68 = .ok (.iaload, 1) := by decide +kernel
theorem dX1_strikeOut_69 : decode cX1_strikeOut 69 = .ok (.iadd, 1) := by decide +kernel
theorem dX1_strikeOut_70 : decode cX1_strikeOut 70 = .ok (.iastore, 1) := by decide +kernel
theorem dX1_strikeOut_71 : decode cX1_strikeOut 71 = .ok (.aload_n 0, 1) := by decide +kernel
theorem dX1_strikeOut_72 : decode cX1_strikeOut 72 = .ok (.getfield 28, 3) := by decide +kernel
theorem dX1_strikeOut_75 : decode cX1_strikeOut 75 = .ok (.iload_n 1, 1) := by decide +kernel
theorem dX1_strikeOut_76 : decode cX1_strikeOut 76 = .ok (.iconst 0, 1) := by decide +kernel
theorem dX1_strikeOut_77 : decode cX1_strikeOut 77 = .ok (.iastore, 1) := by decide +kernel
theorem dX1_strikeOut_78 : decode cX1_strikeOut 78 = .ok (.return_, 1) := by decide +kernel
theorem dX1_strikeOut_79 : decode cX1_strikeOut 79 = .ok (.iinc 2 1, 3) := by decide +kernel
theorem dX1_strikeOut_82 : decode cX1_strikeOut 82 = .ok (.goto (-70), 3) := by decide +kernel
theorem dX1_strikeOut_85 : decode cX1_strikeOut 85 = .ok (.return_, 1) := by decide +kernel
theorem dX2_init_0 : decode cX2_init 0 = .ok (.aload_n 0, 1) := by decide +kernel
theorem dX2_init_1 : decode cX2_init 1 = .ok (.invokespecial 3, 3) := by decide +kernel
theorem dX2_init_4 : decode cX2_init 4 = .ok (.aload_n 0, 1) := by decide +kernel
theorem dX2_init_5 : decode cX2_init 5 = .ok (.sipush 400, 3) := by decide +kernel
theorem dX2_init_8 : decode cX2_init 8 = .ok (.newarray .int, 2) := by decide +kernel
theorem dX2_init_10 : decode cX2_init 10 = .ok (.putfield 9, 3) := by decide +kernel
theorem dX2_init_13 : decode cX2_init 13 = .ok (.aload_n 0, 1) := by decide +kernel
theorem dX2_init_14 : decode cX2_init 14 = .ok (.iconst 0, 1) := by decide +kernel
theorem dX2_init_15 : decode cX2_init 15 = .ok (.putfield 15, 3) := by decide +kernel
theorem dX2_init_18 : decode cX2_init 18 = .ok (.return_, 1) := by decide +kernel
theorem dX2_clear_0 : decode cX2_clear 0 = .ok (.aload_n 0, 1) := by decide +kernel
theorem dX2_clear_1 : decode cX2_clear 1 = .ok (.iconst 0, 1) := by decide +kernel
theorem dX2_clear_2 : decode cX2_clear 2 = .ok (.putfield 15, 3) := by decide +kernel
theorem dX2_clear_5 : decode cX2_clear 5 = .ok (.return_, 1) := by decide +kernel
theorem dX2_become_0 : decode cX2_become 0 = .ok (.aload_n 0, 1) := by decide +kernel
theorem dX2_become_1 : decode cX2_become 1 = .ok (.aload_n 1, 1) := by decide +kernel
theorem dX2_become_2 : decode cX2_become 2 = .ok (.getfield 15, 3) := by decide +kernel
theorem dX2_become_5 : decode cX2_become 5 = .ok (.putfield 15, 3) := by decide +kernel
theorem dX2_become_8 : decode cX2_become 8 = .ok (.aload_n 1, 1) := by decide +kernel
theorem dX2_become_9 : decode cX2_become 9 = .ok (.getfield 9, 3) := by decide +kernel
theorem dX2_become_12 : decode cX2_become 12 = .ok (.iconst 0, 1) := by decide +kernel
theorem dX2_become_13 : decode cX2_become 13 = .ok (.aload_n 0, 1) := by decide +kernel
theorem dX2_become_14 : decode cX2_become 14 = .ok (.getfield 9, 3) := by decide +kernel
theorem dX2_become_17 : decode cX2_become 17 = .ok (.iconst 0, 1) := by decide +kernel
theorem dX2_become_18 : decode cX2_become 18 = .ok (.sipush 400, 3) := by decide +kernel
theorem dX2_become_21 : decode cX2_become 21 = .ok (.invokestatic 19, 3) := by decide +kernel
theorem dX2_become_24 : decode cX2_become 24 = .ok (.return_, 1) := by decide +kernel
theorem dX2_add_0 : decode cX2_add 0 = .ok (.aload_n 0, 1) := by decide +kernel
theorem dX2_add_1 : decode cX2_add 1 = .ok (.getfield 15, 3) := by decide +kernel
theorem dX2_add_4 : decode cX2_add 4 = .ok (.ifCond .lt 33, 3) := by decide +kernel
theorem dX2_add_7 : decode cX2_add 7 = .ok (.aload_n 0, 1) := by decide +kernel
theorem dX2_add_8 : decode cX2_add 8 = .ok (.getfield 15, 3) := by decide +kernel
theorem dX2_add_11 : decode cX2_add 11 = .ok (.sipush 400, 3) := by decide +kernel
theorem dX2_add_14 : decode cX2_add 14 = .ok (.if_icmp .ge 23, 3) := by decide +kernel
theorem dX2_add_17 : decode cX2_add 17 = .ok (.aload_n 0, 1) := by decide +kernel
theorem dX2_add_18 : decode cX2_add 18 = .ok (.getfield 9, 3) := by decide +kernel
theorem dX2_add_21 : decode cX2_add 21 = .ok (.aload_n 0, 1) := by decide +kernel
theorem dX2_add_22 : decode cX2_add 22 = .ok (.getfield 15, 3) := by decide +kernel
theorem dX2_add_25 : decode cX2_add 25 = .ok (.iload_n 1, 1) := by decide +kernel
theorem dX2_add_26 : decode cX2_add 26 = .ok (.iastore, 1) := by decide +kernel
theorem dX2_add_27 : decode cX2_add 27 = .ok (.aload_n 0, 1) := by decide +kernel
theorem dX2_add_28 : decode cX2_add 28 = .ok (.dup, 1) := by decide +kernel
theorem dX2_add_29 : decode cX2_add 29 = .ok (.getfield 15, 3) := by decide +kernel
theorem dX2_add_32 : decode cX2_add 32 = .ok (.iconst 1, 1) := by decide +kernel
theorem dX2_add_33 : decode cX2_add 33 = .ok (.iadd, 1) := by decide +kernel
theorem dX2_add_34 : decode cX2_add 34 = .ok (.putfield 15, 3) := by decide +kernel
theorem dX2_add_37 : decode cX2_add 37 = .ok (.return_, 1) := by decide +kernel
theorem dX2_turnFor_0 : decode cX2_turnFor 0 = .ok (.iconst 0, 1) := by decide +kernel
theorem dX2_turnFor_1 : decode cX2_turnFor 1 = .ok (.istore_n 3, 1) := by decide +kernel
theorem dX2_turnFor_2 : decode cX2_turnFor 2 = .ok (.iconst 0, 1) := by decide +kernel
theorem dX2_turnFor_3 : decode cX2_turnFor 3 = .ok (.istore 4, 2) := by decide +kernel
theorem dX2_turnFor_5 : decode cX2_turnFor 5 = .ok (.iload 4, 2) := by decide +kernel
theorem dX2_turnFor_7 : decode cX2_turnFor 7 = .ok (.aload_n 0, 1) := by decide +kernel
theorem dX2_turnFor_8 : decode cX2_turnFor 8 = .ok (.getfield 15, 3) := by decide +kernel
theorem dX2_turnFor_11 : decode cX2_turnFor 11 = .ok (.if_icmp .ge 198, 3) := by decide +kernel
theorem dX2_turnFor_14 : decode cX2_turnFor 14 = .ok (.iload 4, 2) := by decide +kernel
theorem dX2_turnFor_16 : decode cX2_turnFor 16 = .ok (.sipush 400, 3) := by decide +kernel
theorem dX2_turnFor_19 : decode cX2_turnFor 19 = .ok (.if_icmp .ge 190, 3) := by decide +kernel
theorem dX2_turnFor_22 : decode cX2_turnFor 22 = .ok (.aload_n 0, 1) := by decide +kernel
theorem dX2_turnFor_23 : decode cX2_turnFor 23 = .ok (.getfield 9, 3) := by decide +kernel
theorem dX2_turnFor_26 : decode cX2_turnFor 26 = .ok (.iload 4, 2) := by decide +kernel
theorem dX2_turnFor_28 : decode cX2_turnFor 28 = .ok (.iaload, 1) := by decide +kernel
theorem dX2_turnFor_29 : decode cX2_turnFor 29 = .ok (.ineg, 1) := by decide +kernel
theorem dX2_turnFor_30 : decode cX2_turnFor 30 = .ok (.istore 5, 2) := by decide +kernel
theorem dX2_turnFor_32 : decode cX2_turnFor 32 = .ok (.iload 5, 2) := by decide +kernel
theorem dX2_turnFor_34 : decode cX2_turnFor 34 = .ok (.ifCond .le 11, 3) := by decide +kernel
theorem dX2_turnFor_37 : decode cX2_turnFor 37 = .ok (.iload 5, 2) := by decide +kernel
theorem dX2_turnFor_39 : decode cX2_turnFor 39 = .ok (.invokestatic 25, 3) := by decide +kernel
theorem dX2_turnFor_42 : decode cX2_turnFor 42 = .ok (.ifCond .eq 48, 3) := by decide +kernel
theorem dX2_turnFor_45 : decode cX2_turnFor 45 = .ok (.iload_n 3, 1) := by decide +kernel
theorem dX2_turnFor_46 : decode cX2_turnFor 46 = .ok (.bipush 64, 2) := by decide +kernel
theorem dX2_turnFor_48 : decode cX2_turnFor 48 = .ok (.if_icmp .ge 9, 3) := by decide +kernel
theorem dX2_turnFor_51 : decode cX2_turnFor 51 = .ok (.iload_n 3, 1) := by decide +kernel
theorem dX2_turnFor_52 : decode cX2_turnFor 52 = .ok (.aload_n 2, 1) := by decide +kernel
theorem dX2_turnFor_53 : decode cX2_turnFor 53 = .ok (.arraylength, 1) := by decide +kernel
theorem dX2_turnFor_54 : decode cX2_turnFor 54 = .ok (.if_icmp .lt 5, 3) := by decide +kernel
theorem dX2_turnFor_57 : decode cX2_turnFor 57 = .ok (.lconst 0, 1) := by decide +kernel
theorem dX2_turnFor_58 : decode cX2_turnFor 58 = .ok (.lreturn, 1) := by decide +kernel
theorem dX2_turnFor_59 : decode cX2_turnFor 59 = .ok (.aload_n 2, 1) := by decide +kernel
theorem dX2_turnFor_60 : decode cX2_turnFor 60 = .ok (.iload_n 3, 1) := by decide +kernel
theorem dX2_turnFor_61 : decode cX2_turnFor 61 = .ok (.iload 5, 2) := by decide +kernel
theorem dX2_turnFor_63 : decode cX2_turnFor 63 = .ok (.ifCond .gt 14, 3) := by decide +kernel
theorem dX2_turnFor_66 : decode cX2_turnFor 66 = .ok (.aload_n 0, 1) := by decide +kernel
theorem dX2_turnFor_67 : decode cX2_turnFor 67 = .ok (.getfield 9, 3) := by decide +kernel
theorem dX2_turnFor_70 : decode cX2_turnFor 70 = .ok (.iload 4, 2) := by decide +kernel
theorem dX2_turnFor_72 : decode cX2_turnFor 72 = .ok (.iaload, 1) := by decide +kernel
theorem dX2_turnFor_73 : decode cX2_turnFor 73 = .ok (.i2l, 1) := by decide +kernel
theorem dX2_turnFor_74 : decode cX2_turnFor 74 = .ok (.goto 9, 3) := by decide +kernel
theorem dX2_turnFor_77 : decode cX2_turnFor 77 = .ok (.aload_n 1, 1) := by decide +kernel
theorem dX2_turnFor_78 : decode cX2_turnFor 78 = .ok (.iload 5, 2) := by decide +kernel
theorem dX2_turnFor_80 : decode cX2_turnFor 80 = .ok (.invokestatic 29, 3) := by decide +kernel
theorem dX2_turnFor_83 : decode cX2_turnFor 83 = .ok (.lastore, 1) := by decide +kernel
theorem dX2_turnFor_84 : decode cX2_turnFor 84 = .ok (.iinc 3 1, 3) := by decide +kernel
theorem dX2_turnFor_87 : decode cX2_turnFor 87 = .ok (.goto 116, 3) := by decide +kernel
theorem dX2_turnFor_90 : decode cX2_turnFor 90 = .ok (.iload_n 3, 1) := by decide +kernel
theorem dX2_turnFor_91 : decode cX2_turnFor 91 = .ok (.iconst 1, 1) := by decide +kernel
theorem dX2_turnFor_92 : decode cX2_turnFor 92 = .ok (.if_icmp .lt 22, 3) := by decide +kernel
theorem dX2_turnFor_95 : decode cX2_turnFor 95 = .ok (.iload 5, 2) := by decide +kernel
theorem dX2_turnFor_97 : decode cX2_turnFor 97 = .ok (.bipush 20, 2) := by decide +kernel
theorem dX2_turnFor_99 : decode cX2_turnFor 99 = .ok (.if_icmp .eq 17, 3) := by decide +kernel
theorem dX2_turnFor_102 : decode cX2_turnFor 102 = .ok (.iload 5, 2) := by decide +kernel
theorem dX2_turnFor_104 : decode cX2_turnFor 104 = .ok (.bipush 24, 2) := by decide +kernel
theorem dX2_turnFor_106 : decode cX2_turnFor 106 = .ok (.if_icmp .eq 10, 3) := by decide +kernel
theorem dX2_turnFor_109 : decode cX2_turnFor 109 = .ok (.iload_n 3, 1) := by decide +kernel
theorem dX2_turnFor_110 : decode cX2_turnFor 110 = .ok (.iconst 2, 1) := by decide +kernel
theorem dX2_turnFor_111 : decode cX2_turnFor 111 = .ok (.if_icmp .ge 5, 3) := by decide +kernel
theorem dX2_turnFor_114 : decode cX2_turnFor 114 = .ok (.lconst 0, 1) := by decide +kernel
theorem dX2_turnFor_115 : decode cX2_turnFor 115 = .ok (.lreturn, 1) := by decide +kernel
theorem dX2_turnFor_116 : decode cX2_turnFor 116 = .ok (.iload 5, 2) := by decide +kernel
theorem dX2_turnFor_118 : decode cX2_turnFor 118 = .ok (.bipush 20, 2) := by decide +kernel
theorem dX2_turnFor_120 : decode cX2_turnFor 120 = .ok (.if_icmp .ne 9, 3) := by decide +kernel
theorem dX2_turnFor_123 : decode cX2_turnFor 123 = .ok (.aload_n 2, 1) := by decide +kernel
theorem dX2_turnFor_124 : decode cX2_turnFor 124 = .ok (.iload_n 3, 1) := by decide +kernel
theorem dX2_turnFor_125 : decode cX2_turnFor 125 = .ok (.iconst 1, 1) := by decide +kernel
theorem dX2_turnFor_126 : decode cX2_turnFor 126 = .ok (.isub, 1) := by decide +kernel
theorem dX2_turnFor_127 : decode cX2_turnFor 127 = .ok (.laload, 1) := by decide +kernel
theorem dX2_turnFor_128 : decode cX2_turnFor 128 = .ok (.lreturn, 1) := by decide +kernel
theorem dX2_turnFor_129 : decode cX2_turnFor 129 = .ok (.iload 5, 2) := by decide +kernel
theorem dX2_turnFor_131 : decode cX2_turnFor 131 = .ok (.bipush 24, 2) := by decide +kernel
theorem dX2_turnFor_133 : decode cX2_turnFor 133 = .ok (.if_icmp .ne 18, 3) := by decide +kernel
theorem dX2_turnFor_136 : decode cX2_turnFor 136 = .ok (.aload_n 2, 1) := by decide +kernel
theorem dX2_turnFor_137 : decode cX2_turnFor 137 = .ok (.iload_n 3, 1) := by decide +kernel
theorem dX2_turnFor_138 : decode cX2_turnFor 138 = .ok (.iconst 1, 1) := by decide +kernel
theorem dX2_turnFor_139 : decode cX2_turnFor 139 = .ok (.isub, 1) := by decide +kernel
theorem dX2_turnFor_140 : decode cX2_turnFor 140 = .ok (.lconst 1, 1) := by decide +kernel
theorem dX2_turnFor_141 : decode cX2_turnFor 141 = .ok (.aload_n 2, 1) := by decide +kernel
theorem dX2_turnFor_142 : decode cX2_turnFor 142 = .ok (.iload_n 3, 1) := by decide +kernel
theorem dX2_turnFor_143 : decode cX2_turnFor 143 = .ok (.iconst 1, 1) := by decide +kernel
theorem dX2_turnFor_144 : decode cX2_turnFor 144 = .ok (.isub, 1) := by decide +kernel
theorem dX2_turnFor_145 : decode cX2_turnFor 145 = .ok (.laload, 1) := by decide +kernel
theorem dX2_turnFor_146 : decode cX2_turnFor 146 = .ok (.lsub, 1) := by decide +kernel
theorem dX2_turnFor_147 : decode cX2_turnFor 147 = .ok (.lastore, 1) := by decide +kernel
theorem dX2_turnFor_148 : decode cX2_turnFor 148 = .ok (.goto 55, 3) := by decide +kernel
theorem dX2_turnFor_151 : decode cX2_turnFor 151 = .ok (.iload 5, 2) := by decide +kernel
theorem dX2_turnFor_153 : decode cX2_turnFor 153 = .ok (.bipush 21, 2) := by decide +kernel
theorem dX2_turnFor_155 : decode cX2_turnFor 155 = .ok (.if_icmp .ne 25, 3) := by decide +kernel
theorem dX2_turnFor_158 : decode cX2_turnFor 158 = .ok (.aload_n 2, 1) := by decide +kernel
theorem dX2_turnFor_159 : decode cX2_turnFor 159 = .ok (.iload_n 3, 1) := by decide +kernel
theorem dX2_turnFor_160 : decode cX2_turnFor 160 = .ok (.iconst 1, 1) := by decide +kernel
theorem dX2_turnFor_161 : decode cX2_turnFor 161 = .ok (.isub, 1) := by decide +kernel
theorem dX2_turnFor_162 : decode cX2_turnFor 162 = .ok (.laload, 1) := by decide +kernel
theorem dX2_turnFor_163 : decode cX2_turnFor 163 = .ok (.lconst 0, 1) := by decide +kernel
theorem dX2_turnFor_164 : decode cX2_turnFor 164 = .ok (.lcmp, 1) := by decide +kernel
theorem dX2_turnFor_165 : decode cX2_turnFor 165 = .ok (.ifCond .eq 9, 3) := by decide +kernel
theorem dX2_turnFor_168 : decode cX2_turnFor 168 = .ok (.aload_n 2, 1) := by decide +kernel
theorem dX2_turnFor_169 : decode cX2_turnFor 169 = .ok (.iload_n 3, 1) := by decide +kernel
theorem dX2_turnFor_170 : decode cX2_turnFor 170 = .ok (.iconst 2, 1) := by decide +kernel
theorem dX2_turnFor_171 : decode cX2_turnFor 171 = .ok (.isub, 1) := by decide +kernel
theorem dX2_turnFor_172 : decode cX2_turnFor 172 = .ok (.laload, 1) := by decide +kernel
theorem dX2_turnFor_173 : decode cX2_turnFor 173 = .ok (.lreturn, 1) := by decide +kernel
theorem dX2_turnFor_174 : decode cX2_turnFor 174 = .ok (.iinc 3 (-2), 3) := by decide +kernel
theorem dX2_turnFor_177 : decode cX2_turnFor 177 = .ok (.goto 26, 3) := by decide +kernel
theorem dX2_turnFor_180 : decode cX2_turnFor 180 = .ok (.aload_n 2, 1) := by decide +kernel
theorem dX2_turnFor_181 : decode cX2_turnFor 181 = .ok (.iload_n 3, 1) := by decide +kernel
theorem dX2_turnFor_182 : decode cX2_turnFor 182 = .ok (.iconst 2, 1) := by decide +kernel
theorem dX2_turnFor_183 : decode cX2_turnFor 183 = .ok (.isub, 1) := by decide +kernel
theorem dX2_turnFor_184 : decode cX2_turnFor 184 = .ok (.iload 5, 2) := by decide +kernel
theorem dX2_turnFor_186 : decode cX2_turnFor 186 = .ok (.aload_n 2, 1) := by decide +kernel
theorem dX2_turnFor_187 : decode cX2_turnFor 187 = .ok (.iload_n 3, 1) := by decide +kernel
theorem dX2_turnFor_188 : decode cX2_turnFor 188 = .ok (.iconst 2, 1) := by decide +kernel
theorem dX2_turnFor_189 : decode cX2_turnFor 189 = .ok (.isub, 1) := by decide +kernel
theorem dX2_turnFor_190 : decode cX2_turnFor 190 = .ok (.laload, 1) := by decide +kernel
theorem dX2_turnFor_191 : decode cX2_turnFor 191 = .ok (.aload_n 2, 1) := by decide +kernel
theorem dX2_turnFor_192 : decode cX2_turnFor 192 = .ok (.iload_n 3, 1) := by decide +kernel
theorem dX2_turnFor_193 : decode cX2_turnFor 193 = .ok (.iconst 1, 1) := by decide +kernel
theorem dX2_turnFor_194 : decode cX2_turnFor 194 = .ok (.isub, 1) := by decide +kernel
theorem dX2_turnFor_195 : decode cX2_turnFor 195 = .ok (.laload, 1) := by decide +kernel
theorem dX2_turnFor_196 : decode cX2_turnFor 196 = .ok (.invokestatic 35, 3) := by decide +kernel
theorem dX2_turnFor_199 : decode cX2_turnFor 199 = .ok (.lastore, 1) := by decide +kernel
theorem dX2_turnFor_200 : decode cX2_turnFor 200 = .ok (.iinc 3 (-1), 3) := by decide +kernel
theorem dX2_turnFor_203 : decode cX2_turnFor 203 = .ok (.iinc 4 1, 3) := by decide +kernel
theorem dX2_turnFor_206 : decode cX2_turnFor 206 = .ok (.goto (-201), 3) := by decide +kernel
theorem dX2_turnFor_209 : decode cX2_turnFor 209 = .ok (.lconst 0, 1) := by decide +kernel
theorem dX2_turnFor_210 : decode cX2_turnFor 210 = .ok (.lreturn, 1) := by decide +kernel
theorem dX2_isWord_0 : decode cX2_isWord 0 = .ok (.iload_n 0, 1) := by decide +kernel
theorem dX2_isWord_1 : decode cX2_isWord 1 = .ok (.bipush 25, 2) := by decide +kernel
theorem dX2_isWord_3 : decode cX2_isWord 3 = .ok (.if_icmp .lt 13, 3) := by decide +kernel
theorem dX2_isWord_6 : decode cX2_isWord 6 = .ok (.iload_n 0, 1) := by decide +kernel
theorem dX2_isWord_7 : decode cX2_isWord 7 = .ok (.bipush 33, 2) := by decide +kernel
theorem dX2_isWord_9 : decode cX2_isWord 9 = .ok (.if_icmp .gt 7, 3) := by decide +kernel
theorem dX2_isWord_12 : decode cX2_isWord 12 = .ok (.iconst 1, 1) := by decide +kernel
theorem dX2_isWord_13 : decode cX2_isWord 13 = .ok (.goto 4, 3) := by decide +kernel
theorem dX2_isWord_16 : decode cX2_isWord 16 = .ok (.iconst 0, 1) := by decide +kernel
theorem dX2_isWord_17 : decode cX2_isWord 17 = .ok (.ireturn, 1) := by decide +kernel
theorem dX2_wordOf_0 : decode cX2_wordOf 0 = .ok (.iload_n 1, 1) := by decide +kernel
theorem dX2_wordOf_1 : decode cX2_wordOf 1 = .ok (.bipush 25, 2) := by decide +kernel
theorem dX2_wordOf_3 : decode cX2_wordOf 3 = .ok (.isub, 1) := by decide +kernel
theorem dX2_wordOf_4 : decode cX2_wordOf 4 = .ok (.istore_n 2, 1) := by decide +kernel
theorem dX2_wordOf_5 : decode cX2_wordOf 5 = .ok (.iload_n 2, 1) := by decide +kernel
theorem dX2_wordOf_6 : decode cX2_wordOf 6 = .ok (.ifCond .lt 16, 3) := by decide +kernel
theorem dX2_wordOf_9 : decode cX2_wordOf 9 = .ok (.iload_n 2, 1) := by decide +kernel
theorem dX2_wordOf_10 : decode cX2_wordOf 10 = .ok (.aload_n 0, 1) := by decide +kernel
theorem dX2_wordOf_11 : decode cX2_wordOf 11 = .ok (.arraylength, 1) := by decide +kernel
theorem dX2_wordOf_12 : decode cX2_wordOf 12 = .ok (.if_icmp .ge 10, 3) := by decide +kernel
theorem dX2_wordOf_15 : decode cX2_wordOf 15 = .ok (.aload_n 0, 1) := by decide +kernel
theorem dX2_wordOf_16 : decode cX2_wordOf 16 = .ok (.iload_n 2, 1) := by decide +kernel
theorem dX2_wordOf_17 : decode cX2_wordOf 17 = .ok (.iaload, 1) := by decide +kernel
theorem dX2_wordOf_18 : decode cX2_wordOf 18 = .ok (.i2l, 1) := by decide +kernel
theorem dX2_wordOf_19 : decode cX2_wordOf 19 = .ok (.goto 4, 3) := by decide +kernel
theorem dX2_wordOf_22 : decode cX2_wordOf 22 = .ok (.lconst 0, 1) := by decide +kernel
theorem dX2_wordOf_23 : decode cX2_wordOf 23 = .ok (.lreturn, 1) := by decide +kernel
theorem dX2_joined_0 : decode cX2_joined 0 = .ok (.iload_n 0, 1) := by decide +kernel
theorem dX2_joined_1 : decode cX2_joined 1 = .ok (.tableswitch 177 7 23 #[83, 87, 91, 95, 109, 121, 133, 145, 157, 177, 177, 177, 177, 177, 177, 173, 169], 83) := by decide +kernel
theorem dX2_joined_84 : decode cX2_joined 84 = .ok (.lload_n 1, 1) := by decide +kernel
theorem dX2_joined_85 : decode cX2_joined 85 = .ok (.lload_n 3, 1) := by decide +kernel
theorem dX2_joined_86 : decode cX2_joined 86 = .ok (.ladd, 1) := by decide +kernel
theorem dX2_joined_87 : decode cX2_joined 87 = .ok (.lreturn, 1) := by decide +kernel
theorem dX2_joined_88 : decode cX2_joined 88 = .ok (.lload_n 1, 1) := by decide +kernel
theorem dX2_joined_89 : decode cX2_joined 89 = .ok (.lload_n 3, 1) := by decide +kernel
theorem dX2_joined_90 : decode cX2_joined 90 = .ok (.lsub, 1) := by decide +kernel
theorem dX2_joined_91 : decode cX2_joined 91 = .ok (.lreturn, 1) := by decide +kernel
theorem dX2_joined_92 : decode cX2_joined 92 = .ok (.lload_n 1, 1) := by decide +kernel
theorem dX2_joined_93 : decode cX2_joined 93 = .ok (.lload_n 3, 1) := by decide +kernel
theorem dX2_joined_94 : decode cX2_joined 94 = .ok (.lmul, 1) := by decide +kernel
theorem dX2_joined_95 : decode cX2_joined 95 = .ok (.lreturn, 1) := by decide +kernel
theorem dX2_joined_96 : decode cX2_joined 96 = .ok (.lload_n 3, 1) := by decide +kernel
theorem dX2_joined_97 : decode cX2_joined 97 = .ok (.lconst 0, 1) := by decide +kernel
theorem dX2_joined_98 : decode cX2_joined 98 = .ok (.lcmp, 1) := by decide +kernel
theorem dX2_joined_99 : decode cX2_joined 99 = .ok (.ifCond .ne 7, 3) := by decide +kernel
theorem dX2_joined_102 : decode cX2_joined 102 = .ok (.lconst 0, 1) := by decide +kernel
theorem dX2_joined_103 : decode cX2_joined 103 = .ok (.goto 6, 3) := by decide +kernel
theorem dX2_joined_106 : decode cX2_joined 106 = .ok (.lload_n 1, 1) := by decide +kernel
theorem dX2_joined_107 : decode cX2_joined 107 = .ok (.lload_n 3, 1) := by decide +kernel
theorem dX2_joined_108 : decode cX2_joined 108 = .ok (.ldiv, 1) := by decide +kernel
theorem dX2_joined_109 : decode cX2_joined 109 = .ok (.lreturn, 1) := by decide +kernel
theorem dX2_joined_110 : decode cX2_joined 110 = .ok (.lload_n 1, 1) := by decide +kernel
theorem dX2_joined_111 : decode cX2_joined 111 = .ok (.lload_n 3, 1) := by decide +kernel
theorem dX2_joined_112 : decode cX2_joined 112 = .ok (.lcmp, 1) := by decide +kernel
theorem dX2_joined_113 : decode cX2_joined 113 = .ok (.ifCond .ge 7, 3) := by decide +kernel
theorem dX2_joined_116 : decode cX2_joined 116 = .ok (.lconst 1, 1) := by decide +kernel
theorem dX2_joined_117 : decode cX2_joined 117 = .ok (.goto 4, 3) := by decide +kernel
theorem dX2_joined_120 : decode cX2_joined 120 = .ok (.lconst 0, 1) := by decide +kernel
theorem dX2_joined_121 : decode cX2_joined 121 = .ok (.lreturn, 1) := by decide +kernel
theorem dX2_joined_122 : decode cX2_joined 122 = .ok (.lload_n 1, 1) := by decide +kernel
theorem dX2_joined_123 : decode cX2_joined 123 = .ok (.lload_n 3, 1) := by decide +kernel
theorem dX2_joined_124 : decode cX2_joined 124 = .ok (.lcmp, 1) := by decide +kernel
theorem dX2_joined_125 : decode cX2_joined 125 = .ok (.ifCond .gt 7, 3) := by decide +kernel
theorem dX2_joined_128 : decode cX2_joined 128 = .ok (.lconst 1, 1) := by decide +kernel
theorem dX2_joined_129 : decode cX2_joined 129 = .ok (.goto 4, 3) := by decide +kernel
theorem dX2_joined_132 : decode cX2_joined 132 = .ok (.lconst 0, 1) := by decide +kernel
theorem dX2_joined_133 : decode cX2_joined 133 = .ok (.lreturn, 1) := by decide +kernel
theorem dX2_joined_134 : decode cX2_joined 134 = .ok (.lload_n 1, 1) := by decide +kernel
theorem dX2_joined_135 : decode cX2_joined 135 = .ok (.lload_n 3, 1) := by decide +kernel
theorem dX2_joined_136 : decode cX2_joined 136 = .ok (.lcmp, 1) := by decide +kernel
theorem dX2_joined_137 : decode cX2_joined 137 = .ok (.ifCond .ne 7, 3) := by decide +kernel
theorem dX2_joined_140 : decode cX2_joined 140 = .ok (.lconst 1, 1) := by decide +kernel
theorem dX2_joined_141 : decode cX2_joined 141 = .ok (.goto 4, 3) := by decide +kernel
theorem dX2_joined_144 : decode cX2_joined 144 = .ok (.lconst 0, 1) := by decide +kernel
theorem dX2_joined_145 : decode cX2_joined 145 = .ok (.lreturn, 1) := by decide +kernel
theorem dX2_joined_146 : decode cX2_joined 146 = .ok (.lload_n 1, 1) := by decide +kernel
theorem dX2_joined_147 : decode cX2_joined 147 = .ok (.lload_n 3, 1) := by decide +kernel
theorem dX2_joined_148 : decode cX2_joined 148 = .ok (.lcmp, 1) := by decide +kernel
theorem dX2_joined_149 : decode cX2_joined 149 = .ok (.ifCond .lt 7, 3) := by decide +kernel
theorem dX2_joined_152 : decode cX2_joined 152 = .ok (.lconst 1, 1) := by decide +kernel
theorem dX2_joined_153 : decode cX2_joined 153 = .ok (.goto 4, 3) := by decide +kernel
theorem dX2_joined_156 : decode cX2_joined 156 = .ok (.lconst 0, 1) := by decide +kernel
theorem dX2_joined_157 : decode cX2_joined 157 = .ok (.lreturn, 1) := by decide +kernel
theorem dX2_joined_158 : decode cX2_joined 158 = .ok (.lload_n 1, 1) := by decide +kernel
theorem dX2_joined_159 : decode cX2_joined 159 = .ok (.lload_n 3, 1) := by decide +kernel
theorem dX2_joined_160 : decode cX2_joined 160 = .ok (.lcmp, 1) := by decide +kernel
theorem dX2_joined_161 : decode cX2_joined 161 = .ok (.ifCond .le 7, 3) := by decide +kernel
theorem dX2_joined_164 : decode cX2_joined 164 = .ok (.lconst 1, 1) := by decide +kernel
theorem dX2_joined_165 : decode cX2_joined 165 = .ok (.goto 4, 3) := by decide +kernel
theorem dX2_joined_168 : decode cX2_joined 168 = .ok (.lconst 0, 1) := by decide +kernel
theorem dX2_joined_169 : decode cX2_joined 169 = .ok (.lreturn, 1) := by decide +kernel
theorem dX2_joined_170 : decode cX2_joined 170 = .ok (.lload_n 1, 1) := by decide +kernel
theorem dX2_joined_171 : decode cX2_joined 171 = .ok (.lload_n 3, 1) := by decide +kernel
theorem dX2_joined_172 : decode cX2_joined 172 = .ok (.land, 1) := by decide +kernel
theorem dX2_joined_173 : decode cX2_joined 173 = .ok (.lreturn, 1) := by decide +kernel
theorem dX2_joined_174 : decode cX2_joined 174 = .ok (.lload_n 1, 1) := by decide +kernel
theorem dX2_joined_175 : decode cX2_joined 175 = .ok (.lload_n 3, 1) := by decide +kernel
theorem dX2_joined_176 : decode cX2_joined 176 = .ok (.lor, 1) := by decide +kernel
theorem dX2_joined_177 : decode cX2_joined 177 = .ok (.lreturn, 1) := by decide +kernel
theorem dX2_joined_178 : decode cX2_joined 178 = .ok (.lconst 0, 1) := by decide +kernel
theorem dX2_joined_179 : decode cX2_joined 179 = .ok (.lreturn, 1) := by decide +kernel
theorem dX3_init_0 : decode cX3_init 0 = .ok (.aload_n 0, 1) := by decide +kernel
theorem dX3_init_1 : decode cX3_init 1 = .ok (.invokespecial 3, 3) := by decide +kernel
theorem dX3_init_4 : decode cX3_init 4 = .ok (.aload_n 0, 1) := by decide +kernel
theorem dX3_init_5 : decode cX3_init 5 = .ok (.new 9, 3) := by decide +kernel
theorem dX3_init_8 : decode cX3_init 8 = .ok (.dup, 1) := by decide +kernel
theorem dX3_init_9 : decode cX3_init 9 = .ok (.invokespecial 11, 3) := by decide +kernel
theorem dX3_init_12 : decode cX3_init 12 = .ok (.putfield 12, 3) := by decide +kernel
theorem dX3_init_15 : decode cX3_init 15 = .ok (.aload_n 0, 1) := by decide +kernel
theorem dX3_init_16 : decode cX3_init 16 = .ok (.iconst 0, 1) := by decide +kernel
theorem dX3_init_17 : decode cX3_init 17 = .ok (.putfield 18, 3) := by decide +kernel
theorem dX3_init_20 : decode cX3_init 20 = .ok (.aload_n 0, 1) := by decide +kernel
theorem dX3_init_21 : decode cX3_init 21 = .ok (.aload_n 1, 1) := by decide +kernel
theorem dX3_init_22 : decode cX3_init 22 = .ok (.putfield 22, 3) := by decide +kernel
theorem dX3_init_25 : decode cX3_init 25 = .ok (.return_, 1) := by decide +kernel
theorem dX3_reads_0 : decode cX3_reads 0 = .ok (.aload_n 1, 1) := by decide +kernel
theorem dX3_reads_1 : decode cX3_reads 1 = .ok (.ifnonnull 12, 3) := by decide +kernel
theorem dX3_reads_4 : decode cX3_reads 4 = .ok (.aload_n 0, 1) := by decide +kernel
theorem dX3_reads_5 : decode cX3_reads 5 = .ok (.getfield 22, 3) := by decide +kernel
theorem dX3_reads_8 : decode cX3_reads 8 = .ok (.iconst 0, 1) := by decide +kernel
theorem dX3_reads_9 : decode cX3_reads 9 = .ok (.invokevirtual 28, 3) := by decide +kernel
theorem dX3_reads_12 : decode cX3_reads 12 = .ok (.ireturn, 1) := by decide +kernel
theorem dX3_reads_13 : decode cX3_reads 13 = .ok (.aload_n 0, 1) := by decide +kernel
theorem dX3_reads_14 : decode cX3_reads 14 = .ok (.getfield 12, 3) := by decide +kernel
theorem dX3_reads_17 : decode cX3_reads 17 = .ok (.invokevirtual 32, 3) := by decide +kernel
theorem dX3_reads_20 : decode cX3_reads 20 = .ok (.aload_n 0, 1) := by decide +kernel
theorem dX3_reads_21 : decode cX3_reads 21 = .ok (.iconst 0, 1) := by decide +kernel
theorem dX3_reads_22 : decode cX3_reads 22 = .ok (.putfield 18, 3) := by decide +kernel
theorem dX3_reads_25 : decode cX3_reads 25 = .ok (.iconst 0, 1) := by decide +kernel
theorem dX3_reads_26 : decode cX3_reads 26 = .ok (.istore_n 2, 1) := by decide +kernel
theorem dX3_reads_27 : decode cX3_reads 27 = .ok (.iload_n 2, 1) := by decide +kernel
theorem dX3_reads_28 : decode cX3_reads 28 = .ok (.bipush 12, 2) := by decide +kernel
theorem dX3_reads_30 : decode cX3_reads 30 = .ok (.if_icmp .gt 138, 3) := by decide +kernel
theorem dX3_reads_33 : decode cX3_reads 33 = .ok (.aload_n 0, 1) := by decide +kernel
theorem dX3_reads_34 : decode cX3_reads 34 = .ok (.getfield 22, 3) := by decide +kernel
theorem dX3_reads_37 : decode cX3_reads 37 = .ok (.invokevirtual 35, 3) := by decide +kernel
theorem dX3_reads_40 : decode cX3_reads 40 = .ok (.bipush 20, 2) := by decide +kernel
theorem dX3_reads_42 : decode cX3_reads 42 = .ok (.if_icmp .eq 12, 3) := by decide +kernel
theorem dX3_reads_45 : decode cX3_reads 45 = .ok (.aload_n 0, 1) := by decide +kernel
theorem dX3_reads_46 : decode cX3_reads 46 = .ok (.getfield 22, 3) := by decide +kernel
theorem dX3_reads_49 : decode cX3_reads 49 = .ok (.iconst 0, 1) := by decide +kernel
theorem dX3_reads_50 : decode cX3_reads 50 = .ok (.invokevirtual 28, 3) := by decide +kernel
theorem dX3_reads_53 : decode cX3_reads 53 = .ok (.ireturn, 1) := by decide +kernel
theorem dX3_reads_54 : decode cX3_reads 54 = .ok (.iload_n 2, 1) := by decide +kernel
theorem dX3_reads_55 : decode cX3_reads 55 = .ok (.bipush 12, 2) := by decide +kernel
theorem dX3_reads_57 : decode cX3_reads 57 = .ok (.if_icmp .ne 12, 3) := by decide +kernel
theorem dX3_reads_60 : decode cX3_reads 60 = .ok (.aload_n 0, 1) := by decide +kernel
theorem dX3_reads_61 : decode cX3_reads 61 = .ok (.getfield 22, 3) := by decide +kernel
theorem dX3_reads_64 : decode cX3_reads 64 = .ok (.iconst 4, 1) := by decide +kernel
theorem dX3_reads_65 : decode cX3_reads 65 = .ok (.invokevirtual 28, 3) := by decide +kernel
theorem dX3_reads_68 : decode cX3_reads 68 = .ok (.ireturn, 1) := by decide +kernel
theorem dX3_reads_69 : decode cX3_reads 69 = .ok (.aload_n 0, 1) := by decide +kernel
theorem dX3_reads_70 : decode cX3_reads 70 = .ok (.getfield 22, 3) := by decide +kernel
theorem dX3_reads_73 : decode cX3_reads 73 = .ok (.invokevirtual 39, 3) := by decide +kernel
theorem dX3_reads_76 : decode cX3_reads 76 = .ok (.aload_n 0, 1) := by decide +kernel
theorem dX3_reads_77 : decode cX3_reads 77 = .ok (.invokevirtual 42, 3) := by decide +kernel
theorem dX3_reads_80 : decode cX3_reads 80 = .ok (.ifCond .ne 5, 3) := by decide +kernel
theorem dX3_reads_83 : decode cX3_reads 83 = .ok (.iconst 0, 1) := by decide +kernel
theorem dX3_reads_84 : decode cX3_reads 84 = .ok (.ireturn, 1) := by decide +kernel
theorem dX3_reads_85 : decode cX3_reads 85 = .ok (.aload_n 0, 1) := by decide +kernel
theorem dX3_reads_86 : decode cX3_reads 86 = .ok (.bipush 21, 2) := by decide +kernel
theorem dX3_reads_88 : decode cX3_reads 88 = .ok (.invokevirtual 46, 3) := by decide +kernel
theorem dX3_reads_91 : decode cX3_reads 91 = .ok (.istore_n 3, 1) := by decide +kernel
theorem dX3_reads_92 : decode cX3_reads 92 = .ok (.iload_n 3, 1) := by decide +kernel
theorem dX3_reads_93 : decode cX3_reads 93 = .ok (.ifCond .eq 13, 3) := by decide +kernel
theorem dX3_reads_96 : decode cX3_reads 96 = .ok (.aload_n 0, 1) := by decide +kernel
theorem dX3_reads_97 : decode cX3_reads 97 = .ok (.iconst 0, 1) := by decide +kernel
theorem dX3_reads_98 : decode cX3_reads 98 = .ok (.invokevirtual 49, 3) := by decide +kernel
theorem dX3_reads_101 : decode cX3_reads 101 = .ok (.ifCond .ne 5, 3) := by decide +kernel
theorem dX3_reads_104 : decode cX3_reads 104 = .ok (.iconst 0, 1) := by decide +kernel
theorem dX3_reads_105 : decode cX3_reads 105 = .ok (.ireturn, 1) := by decide +kernel
theorem dX3_reads_106 : decode cX3_reads 106 = .ok (.aload_n 0, 1) := by decide +kernel
theorem dX3_reads_107 : decode cX3_reads 107 = .ok (.getfield 12, 3) := by decide +kernel
theorem dX3_reads_110 : decode cX3_reads 110 = .ok (.iload_n 3, 1) := by decide +kernel
theorem dX3_reads_111 : decode cX3_reads 111 = .ok (.ifCond .eq 8, 3) := by decide +kernel
theorem dX3_reads_114 : decode cX3_reads 114 = .ok (.bipush (-21), 2) := by decide +kernel
theorem dX3_reads_116 : decode cX3_reads 116 = .ok (.goto 5, 3) := by decide +kernel
theorem dX3_reads_119 : decode cX3_reads 119 = .ok (.bipush (-20), 2) := by decide +kernel
theorem dX3_reads_121 : decode cX3_reads 121 = .ok (.invokevirtual 52, 3) := by decide +kernel
theorem dX3_reads_124 : decode cX3_reads 124 = .ok (.aload_n 0, 1) := by decide +kernel
theorem dX3_reads_125 : decode cX3_reads 125 = .ok (.getfield 22, 3) := by decide +kernel
theorem dX3_reads_128 : decode cX3_reads 128 = .ok (.invokevirtual 35, 3) := by decide +kernel
theorem dX3_reads_131 : decode cX3_reads 131 = .ok (.iconst 1, 1) := by decide +kernel
theorem dX3_reads_132 : decode cX3_reads 132 = .ok (.if_icmp .ne 13, 3) := by decide +kernel
theorem dX3_reads_135 : decode cX3_reads 135 = .ok (.aload_n 1, 1) := by decide +kernel
theorem dX3_reads_136 : decode cX3_reads 136 = .ok (.aload_n 0, 1) := by decide +kernel
theorem dX3_reads_137 : decode cX3_reads 137 = .ok (.getfield 12, 3) := by decide +kernel
theorem dX3_reads_140 : decode cX3_reads 140 = .ok (.invokevirtual 56, 3) := by decide +kernel
theorem dX3_reads_143 : decode cX3_reads 143 = .ok (.iconst 1, 1) := by decide +kernel
theorem dX3_reads_144 : decode cX3_reads 144 = .ok (.ireturn, 1) := by decide +kernel
theorem dX3_reads_145 : decode cX3_reads 145 = .ok (.aload_n 0, 1) := by decide +kernel
theorem dX3_reads_146 : decode cX3_reads 146 = .ok (.iconst 4, 1) := by decide +kernel
theorem dX3_reads_147 : decode cX3_reads 147 = .ok (.invokevirtual 46, 3) := by decide +kernel
theorem dX3_reads_150 : decode cX3_reads 150 = .ok (.ifCond .ne 12, 3) := by decide +kernel
theorem dX3_reads_153 : decode cX3_reads 153 = .ok (.aload_n 0, 1) := by decide +kernel
theorem dX3_reads_154 : decode cX3_reads 154 = .ok (.getfield 22, 3) := by decide +kernel
theorem dX3_reads_157 : decode cX3_reads 157 = .ok (.iconst 0, 1) := by decide +kernel
theorem dX3_reads_158 : decode cX3_reads 158 = .ok (.invokevirtual 28, 3) := by decide +kernel
theorem dX3_reads_161 : decode cX3_reads 161 = .ok (.ireturn, 1) := by decide +kernel
theorem dX3_reads_162 : decode cX3_reads 162 = .ok (.iinc 2 1, 3) := by decide +kernel
theorem dX3_reads_165 : decode cX3_reads 165 = .ok (.goto (-138), 3) := by decide +kernel
theorem dX3_reads_168 : decode cX3_reads 168 = .ok (.aload_n 0, 1) := by decide +kernel
theorem dX3_reads_169 : decode cX3_reads 169 = .ok (.getfield 22, 3) := by decide +kernel
theorem dX3_reads_172 : decode cX3_reads 172 = .ok (.iconst 4, 1) := by decide +kernel
theorem dX3_reads_173 : decode cX3_reads 173 = .ok (.invokevirtual 28, 3) := by decide +kernel
theorem dX3_reads_176 : decode cX3_reads 176 = .ok (.ireturn, 1) := by decide +kernel
theorem dX3_readsTest_0 : decode cX3_readsTest 0 = .ok (.iconst 0, 1) := by decide +kernel
theorem dX3_readsTest_1 : decode cX3_readsTest 1 = .ok (.istore_n 2, 1) := by decide +kernel
theorem dX3_readsTest_2 : decode cX3_readsTest 2 = .ok (.iconst 0, 1) := by decide +kernel
theorem dX3_readsTest_3 : decode cX3_readsTest 3 = .ok (.istore_n 3, 1) := by decide +kernel
theorem dX3_readsTest_4 : decode cX3_readsTest 4 = .ok (.iconst 0, 1) := by decide +kernel
theorem dX3_readsTest_5 : decode cX3_readsTest 5 = .ok (.istore 4, 2) := by decide +kernel
theorem dX3_readsTest_7 : decode cX3_readsTest 7 = .ok (.iload 4, 2) := by decide +kernel
theorem dX3_readsTest_9 : decode cX3_readsTest 9 = .ok (.sipush 400, 3) := by decide +kernel
theorem dX3_readsTest_12 : decode cX3_readsTest 12 = .ok (.if_icmp .ge 69, 3) := by decide +kernel
theorem dX3_readsTest_15 : decode cX3_readsTest 15 = .ok (.aload_n 0, 1) := by decide +kernel
theorem dX3_readsTest_16 : decode cX3_readsTest 16 = .ok (.iload_n 1, 1) := by decide +kernel
theorem dX3_readsTest_17 : decode cX3_readsTest 17 = .ok (.invokevirtual 60, 3) := by decide +kernel
theorem dX3_readsTest_20 : decode cX3_readsTest 20 = .ok (.ifCond .ne 5, 3) := by decide +kernel
theorem dX3_readsTest_23 : decode cX3_readsTest 23 = .ok (.iconst 0, 1) := by decide +kernel
theorem dX3_readsTest_24 : decode cX3_readsTest 24 = .ok (.ireturn, 1) := by decide +kernel
theorem dX3_readsTest_25 : decode cX3_readsTest 25 = .ok (.iload_n 2, 1) := by decide +kernel
theorem dX3_readsTest_26 : decode cX3_readsTest 26 = .ok (.ifCond .eq 12, 3) := by decide +kernel
theorem dX3_readsTest_29 : decode cX3_readsTest 29 = .ok (.aload_n 0, 1) := by decide +kernel
theorem dX3_readsTest_30 : decode cX3_readsTest 30 = .ok (.getfield 12, 3) := by decide +kernel
theorem dX3_readsTest_33 : decode cX3_readsTest 33 = .ok (.bipush (-23), 2) := by decide +kernel
theorem dX3_readsTest_35 : decode cX3_readsTest 35 = .ok (.invokevirtual 52, 3) := by decide +kernel
theorem dX3_readsTest_38 : decode cX3_readsTest 38 = .ok (.aload_n 0, 1) := by decide +kernel
theorem dX3_readsTest_39 : decode cX3_readsTest 39 = .ok (.bipush 23, 2) := by decide +kernel
theorem dX3_readsTest_41 : decode cX3_readsTest 41 = .ok (.invokevirtual 46, 3) := by decide +kernel
theorem dX3_readsTest_44 : decode cX3_readsTest 44 = .ok (.istore_n 2, 1) := by decide +kernel
theorem dX3_readsTest_45 : decode cX3_readsTest 45 = .ok (.iload_n 2, 1) := by decide +kernel
theorem dX3_readsTest_46 : decode cX3_readsTest 46 = .ok (.ifCond .ne 29, 3) := by decide +kernel
theorem dX3_readsTest_49 : decode cX3_readsTest 49 = .ok (.iload_n 3, 1) := by decide +kernel
theorem dX3_readsTest_50 : decode cX3_readsTest 50 = .ok (.ifCond .eq 12, 3) := by decide +kernel
theorem dX3_readsTest_53 : decode cX3_readsTest 53 = .ok (.aload_n 0, 1) := by decide +kernel
theorem dX3_readsTest_54 : decode cX3_readsTest 54 = .ok (.getfield 12, 3) := by decide +kernel
theorem dX3_readsTest_57 : decode cX3_readsTest 57 = .ok (.bipush (-22), 2) := by decide +kernel
theorem dX3_readsTest_59 : decode cX3_readsTest 59 = .ok (.invokevirtual 52, 3) := by decide +kernel
theorem dX3_readsTest_62 : decode cX3_readsTest 62 = .ok (.aload_n 0, 1) := by decide +kernel
theorem dX3_readsTest_63 : decode cX3_readsTest 63 = .ok (.bipush 22, 2) := by decide +kernel
theorem dX3_readsTest_65 : decode cX3_readsTest 65 = .ok (.invokevirtual 46, 3) := by decide +kernel
theorem dX3_readsTest_68 : decode cX3_readsTest 68 = .ok (.istore_n 3, 1) := by decide +kernel
theorem dX3_readsTest_69 : decode cX3_readsTest 69 = .ok (.iload_n 3, 1) := by decide +kernel
theorem dX3_readsTest_70 : decode cX3_readsTest 70 = .ok (.ifCond .ne 5, 3) := by decide +kernel
theorem dX3_readsTest_73 : decode cX3_readsTest 73 = .ok (.iconst 1, 1) := by decide +kernel
theorem dX3_readsTest_74 : decode cX3_readsTest 74 = .ok (.ireturn, 1) := by decide +kernel
theorem dX3_readsTest_75 : decode cX3_readsTest 75 = .ok (.iinc 4 1, 3) := by decide +kernel
theorem dX3_readsTest_78 : decode cX3_readsTest 78 = .ok (.goto (-71), 3) := by decide +kernel
theorem dX3_readsTest_81 : decode cX3_readsTest 81 = .ok (.aload_n 0, 1) := by decide +kernel
theorem dX3_readsTest_82 : decode cX3_readsTest 82 = .ok (.getfield 22, 3) := by decide +kernel
theorem dX3_readsTest_85 : decode cX3_readsTest 85 = .ok (.iconst 0, 1) := by decide +kernel
theorem dX3_readsTest_86 : decode cX3_readsTest 86 = .ok (.invokevirtual 28, 3) := by decide +kernel
theorem dX3_readsTest_89 : decode cX3_readsTest 89 = .ok (.ireturn, 1) := by decide +kernel
theorem dX3_readsFact_0 : decode cX3_readsFact 0 = .ok (.aload_n 0, 1) := by decide +kernel
theorem dX3_readsFact_1 : decode cX3_readsFact 1 = .ok (.getfield 22, 3) := by decide +kernel
theorem dX3_readsFact_4 : decode cX3_readsFact 4 = .ok (.invokevirtual 35, 3) := by decide +kernel
theorem dX3_readsFact_7 : decode cX3_readsFact 7 = .ok (.istore_n 2, 1) := by decide +kernel
theorem dX3_readsFact_8 : decode cX3_readsFact 8 = .ok (.iload_n 2, 1) := by decide +kernel
theorem dX3_readsFact_9 : decode cX3_readsFact 9 = .ok (.bipush 24, 2) := by decide +kernel
theorem dX3_readsFact_11 : decode cX3_readsFact 11 = .ok (.if_icmp .eq 13, 3) := by decide +kernel
theorem dX3_readsFact_14 : decode cX3_readsFact 14 = .ok (.iload_n 2, 1) := by decide +kernel
theorem dX3_readsFact_15 : decode cX3_readsFact 15 = .ok (.iconst 5, 1) := by decide +kernel
theorem dX3_readsFact_16 : decode cX3_readsFact 16 = .ok (.if_icmp .eq 8, 3) := by decide +kernel
theorem dX3_readsFact_19 : decode cX3_readsFact 19 = .ok (.aload_n 0, 1) := by decide +kernel
theorem dX3_readsFact_20 : decode cX3_readsFact 20 = .ok (.invokevirtual 63, 3) := by decide +kernel
theorem dX3_readsFact_23 : decode cX3_readsFact 23 = .ok (.ireturn, 1) := by decide +kernel
theorem dX3_readsFact_24 : decode cX3_readsFact 24 = .ok (.iload_n 1, 1) := by decide +kernel
theorem dX3_readsFact_25 : decode cX3_readsFact 25 = .ok (.bipush 10, 2) := by decide +kernel
theorem dX3_readsFact_27 : decode cX3_readsFact 27 = .ok (.if_icmp .lt 12, 3) := by decide +kernel
theorem dX3_readsFact_30 : decode cX3_readsFact 30 = .ok (.aload_n 0, 1) := by decide +kernel
theorem dX3_readsFact_31 : decode cX3_readsFact 31 = .ok (.getfield 22, 3) := by decide +kernel
theorem dX3_readsFact_34 : decode cX3_readsFact 34 = .ok (.iconst 2, 1) := by decide +kernel
theorem dX3_readsFact_35 : decode cX3_readsFact 35 = .ok (.invokevirtual 28, 3) := by decide +kernel
theorem dX3_readsFact_38 : decode cX3_readsFact 38 = .ok (.ireturn, 1) := by decide +kernel
theorem dX3_readsFact_39 : decode cX3_readsFact 39 = .ok (.aload_n 0, 1) := by decide +kernel
theorem dX3_readsFact_40 : decode cX3_readsFact 40 = .ok (.getfield 22, 3) := by decide +kernel
theorem dX3_readsFact_43 : decode cX3_readsFact 43 = .ok (.invokevirtual 39, 3) := by decide +kernel
theorem dX3_readsFact_46 : decode cX3_readsFact 46 = .ok (.iload_n 2, 1) := by decide +kernel
theorem dX3_readsFact_47 : decode cX3_readsFact 47 = .ok (.bipush 24, 2) := by decide +kernel
theorem dX3_readsFact_49 : decode cX3_readsFact 49 = .ok (.if_icmp .ne 26, 3) := by decide +kernel
theorem dX3_readsFact_52 : decode cX3_readsFact 52 = .ok (.aload_n 0, 1) := by decide +kernel
theorem dX3_readsFact_53 : decode cX3_readsFact 53 = .ok (.iload_n 1, 1) := by decide +kernel
theorem dX3_readsFact_54 : decode cX3_readsFact 54 = .ok (.iconst 1, 1) := by decide +kernel
theorem dX3_readsFact_55 : decode cX3_readsFact 55 = .ok (.iadd, 1) := by decide +kernel
theorem dX3_readsFact_56 : decode cX3_readsFact 56 = .ok (.invokevirtual 60, 3) := by decide +kernel
theorem dX3_readsFact_59 : decode cX3_readsFact 59 = .ok (.ifCond .ne 5, 3) := by decide +kernel
theorem dX3_readsFact_62 : decode cX3_readsFact 62 = .ok (.iconst 0, 1) := by decide +kernel
theorem dX3_readsFact_63 : decode cX3_readsFact 63 = .ok (.ireturn, 1) := by decide +kernel
theorem dX3_readsFact_64 : decode cX3_readsFact 64 = .ok (.aload_n 0, 1) := by decide +kernel
theorem dX3_readsFact_65 : decode cX3_readsFact 65 = .ok (.getfield 12, 3) := by decide +kernel
theorem dX3_readsFact_68 : decode cX3_readsFact 68 = .ok (.bipush (-24), 2) := by decide +kernel
theorem dX3_readsFact_70 : decode cX3_readsFact 70 = .ok (.invokevirtual 52, 3) := by decide +kernel
theorem dX3_readsFact_73 : decode cX3_readsFact 73 = .ok (.iconst 1, 1) := by decide +kernel
theorem dX3_readsFact_74 : decode cX3_readsFact 74 = .ok (.ireturn, 1) := by decide +kernel
theorem dX3_readsFact_75 : decode cX3_readsFact 75 = .ok (.aload_n 0, 1) := by decide +kernel
theorem dX3_readsFact_76 : decode cX3_readsFact 76 = .ok (.iload_n 1, 1) := by decide +kernel
theorem dX3_readsFact_77 : decode cX3_readsFact 77 = .ok (.iconst 1, 1) := by decide +kernel
theorem dX3_readsFact_78 : decode cX3_readsFact 78 = .ok (.iadd, 1) := by decide +kernel
theorem dX3_readsFact_79 : decode cX3_readsFact 79 = .ok (.invokevirtual 49, 3) := by decide +kernel
theorem dX3_readsFact_82 : decode cX3_readsFact 82 = .ok (.ifCond .ne 5, 3) := by decide +kernel
theorem dX3_readsFact_85 : decode cX3_readsFact 85 = .ok (.iconst 0, 1) := by decide +kernel
theorem dX3_readsFact_86 : decode cX3_readsFact 86 = .ok (.ireturn, 1) := by decide +kernel
theorem dX3_readsFact_87 : decode cX3_readsFact 87 = .ok (.aload_n 0, 1) := by decide +kernel
theorem dX3_readsFact_88 : decode cX3_readsFact 88 = .ok (.bipush 6, 2) := by decide +kernel
theorem dX3_readsFact_90 : decode cX3_readsFact 90 = .ok (.invokevirtual 46, 3) := by decide +kernel
theorem dX3_readsFact_93 : decode cX3_readsFact 93 = .ok (.ifCond .ne 14, 3) := by decide +kernel
theorem dX3_readsFact_96 : decode cX3_readsFact 96 = .ok (.aload_n 0, 1) := by decide +kernel
theorem dX3_readsFact_97 : decode cX3_readsFact 97 = .ok (.getfield 22, 3) := by decide +kernel
theorem dX3_readsFact_100 : decode cX3_readsFact 100 = .ok (.iconst 0, 1) := by decide +kernel
theorem dX3_readsFact_101 : decode cX3_readsFact 101 = .ok (.invokevirtual 28, 3) := by decide +kernel
theorem dX3_readsFact_104 : decode cX3_readsFact 104 = .ok (.ifCond .eq 7, 3) := by decide +kernel
theorem dX3_readsFact_107 : decode cX3_readsFact 107 = .ok (.iconst 1, 1) := by decide +kernel
theorem dX3_readsFact_108 : decode cX3_readsFact 108 = .ok (.goto 4, 3) := by decide +kernel
theorem dX3_readsFact_111 : decode cX3_readsFact 111 = .ok (.iconst 0, 1) := by decide +kernel
theorem dX3_readsFact_112 : decode cX3_readsFact 112 = .ok (.ireturn, 1) := by decide +kernel
theorem dX3_readsComparison_0 : decode cX3_readsComparison 0 = .ok (.aload_n 0, 1) := by decide +kernel
theorem dX3_readsComparison_1 : decode cX3_readsComparison 1 = .ok (.invokevirtual 42, 3) := by decide +kernel
theorem dX3_readsComparison_4 : decode cX3_readsComparison 4 = .ok (.ifCond .ne 5, 3) := by decide +kernel
theorem dX3_readsComparison_7 : decode cX3_readsComparison 7 = .ok (.iconst 0, 1) := by decide +kernel
theorem dX3_readsComparison_8 : decode cX3_readsComparison 8 = .ok (.ireturn, 1) := by decide +kernel
theorem dX3_readsComparison_9 : decode cX3_readsComparison 9 = .ok (.aload_n 0, 1) := by decide +kernel
theorem dX3_readsComparison_10 : decode cX3_readsComparison 10 = .ok (.getfield 22, 3) := by decide +kernel
theorem dX3_readsComparison_13 : decode cX3_readsComparison 13 = .ok (.invokevirtual 35, 3) := by decide +kernel
theorem dX3_readsComparison_16 : decode cX3_readsComparison 16 = .ok (.istore_n 1, 1) := by decide +kernel
theorem dX3_readsComparison_17 : decode cX3_readsComparison 17 = .ok (.iload_n 1, 1) := by decide +kernel
theorem dX3_readsComparison_18 : decode cX3_readsComparison 18 = .ok (.bipush 11, 2) := by decide +kernel
theorem dX3_readsComparison_20 : decode cX3_readsComparison 20 = .ok (.if_icmp .lt 9, 3) := by decide +kernel
theorem dX3_readsComparison_23 : decode cX3_readsComparison 23 = .ok (.iload_n 1, 1) := by decide +kernel
theorem dX3_readsComparison_24 : decode cX3_readsComparison 24 = .ok (.bipush 15, 2) := by decide +kernel
theorem dX3_readsComparison_26 : decode cX3_readsComparison 26 = .ok (.if_icmp .le 12, 3) := by decide +kernel
theorem dX3_readsComparison_29 : decode cX3_readsComparison 29 = .ok (.aload_n 0, 1) := by decide +kernel
theorem dX3_readsComparison_30 : decode cX3_readsComparison 30 = .ok (.getfield 22, 3) := by decide +kernel
theorem dX3_readsComparison_33 : decode cX3_readsComparison 33 = .ok (.iconst 0, 1) := by decide +kernel
theorem dX3_readsComparison_34 : decode cX3_readsComparison 34 = .ok (.invokevirtual 28, 3) := by decide +kernel
theorem dX3_readsComparison_37 : decode cX3_readsComparison 37 = .ok (.ireturn, 1) := by decide +kernel
theorem dX3_readsComparison_38 : decode cX3_readsComparison 38 = .ok (.aload_n 0, 1) := by decide +kernel
theorem dX3_readsComparison_39 : decode cX3_readsComparison 39 = .ok (.getfield 18, 3) := by decide +kernel
theorem dX3_readsComparison_42 : decode cX3_readsComparison 42 = .ok (.bipush 60, 2) := by decide +kernel
theorem dX3_readsComparison_44 : decode cX3_readsComparison 44 = .ok (.if_icmp .lt 12, 3) := by decide +kernel
theorem dX3_readsComparison_47 : decode cX3_readsComparison 47 = .ok (.aload_n 0, 1) := by decide +kernel
theorem dX3_readsComparison_48 : decode cX3_readsComparison 48 = .ok (.getfield 22, 3) := by decide +kernel
theorem dX3_readsComparison_51 : decode cX3_readsComparison 51 = .ok (.iconst 3, 1) := by decide +kernel
theorem dX3_readsComparison_52 : decode cX3_readsComparison 52 = .ok (.invokevirtual 28, 3) := by decide +kernel
theorem dX3_readsComparison_55 : decode cX3_readsComparison 55 = .ok (.ireturn, 1) := by decide +kernel
theorem dX3_readsComparison_56 : decode cX3_readsComparison 56 = .ok (.aload_n 0, 1) := by decide +kernel
theorem dX3_readsComparison_57 : decode cX3_readsComparison 57 = .ok (.dup, 1) := by decide +kernel
theorem dX3_readsComparison_58 : decode cX3_readsComparison 58 = .ok (.getfield 18, 3) := by decide +kernel
theorem dX3_readsComparison_61 : decode cX3_readsComparison 61 = .ok (.iconst 1, 1) := by decide +kernel
theorem dX3_readsComparison_62 : decode cX3_readsComparison 62 = .ok (.iadd, 1) := by decide +kernel
theorem dX3_readsComparison_63 : decode cX3_readsComparison 63 = .ok (.putfield 18, 3) := by decide +kernel
theorem dX3_readsComparison_66 : decode cX3_readsComparison 66 = .ok (.aload_n 0, 1) := by decide +kernel
theorem dX3_readsComparison_67 : decode cX3_readsComparison 67 = .ok (.getfield 22, 3) := by decide +kernel
theorem dX3_readsComparison_70 : decode cX3_readsComparison 70 = .ok (.invokevirtual 39, 3) := by decide +kernel
theorem dX3_readsComparison_73 : decode cX3_readsComparison 73 = .ok (.aload_n 0, 1) := by decide +kernel
theorem dX3_readsComparison_74 : decode cX3_readsComparison 74 = .ok (.invokevirtual 42, 3) := by decide +kernel
theorem dX3_readsComparison_77 : decode cX3_readsComparison 77 = .ok (.ifCond .ne 5, 3) := by decide +kernel
theorem dX3_readsComparison_80 : decode cX3_readsComparison 80 = .ok (.iconst 0, 1) := by decide +kernel
theorem dX3_readsComparison_81 : decode cX3_readsComparison 81 = .ok (.ireturn, 1) := by decide +kernel
theorem dX3_readsComparison_82 : decode cX3_readsComparison 82 = .ok (.aload_n 0, 1) := by decide +kernel
theorem dX3_readsComparison_83 : decode cX3_readsComparison 83 = .ok (.getfield 12, 3) := by decide +kernel
theorem dX3_readsComparison_86 : decode cX3_readsComparison 86 = .ok (.iload_n 1, 1) := by decide +kernel
theorem dX3_readsComparison_87 : decode cX3_readsComparison 87 = .ok (.ineg, 1) := by decide +kernel
theorem dX3_readsComparison_88 : decode cX3_readsComparison 88 = .ok (.invokevirtual 52, 3) := by decide +kernel
theorem dX3_readsComparison_91 : decode cX3_readsComparison 91 = .ok (.iconst 1, 1) := by decide +kernel
theorem dX3_readsComparison_92 : decode cX3_readsComparison 92 = .ok (.ireturn, 1) := by decide +kernel
theorem dX3_readsSum_0 : decode cX3_readsSum 0 = .ok (.iconst 0, 1) := by decide +kernel
theorem dX3_readsSum_1 : decode cX3_readsSum 1 = .ok (.istore_n 1, 1) := by decide +kernel
theorem dX3_readsSum_2 : decode cX3_readsSum 2 = .ok (.iconst 0, 1) := by decide +kernel
theorem dX3_readsSum_3 : decode cX3_readsSum 3 = .ok (.istore_n 2, 1) := by decide +kernel
theorem dX3_readsSum_4 : decode cX3_readsSum 4 = .ok (.iconst 0, 1) := by decide +kernel
theorem dX3_readsSum_5 : decode cX3_readsSum 5 = .ok (.istore_n 3, 1) := by decide +kernel
theorem dX3_readsSum_6 : decode cX3_readsSum 6 = .ok (.iload_n 3, 1) := by decide +kernel
theorem dX3_readsSum_7 : decode cX3_readsSum 7 = .ok (.sipush 400, 3) := by decide +kernel
theorem dX3_readsSum_10 : decode cX3_readsSum 10 = .ok (.if_icmp .ge 88, 3) := by decide +kernel
theorem dX3_readsSum_13 : decode cX3_readsSum 13 = .ok (.aload_n 0, 1) := by decide +kernel
theorem dX3_readsSum_14 : decode cX3_readsSum 14 = .ok (.invokevirtual 66, 3) := by decide +kernel
theorem dX3_readsSum_17 : decode cX3_readsSum 17 = .ok (.ifCond .ne 5, 3) := by decide +kernel
theorem dX3_readsSum_20 : decode cX3_readsSum 20 = .ok (.iconst 0, 1) := by decide +kernel
theorem dX3_readsSum_21 : decode cX3_readsSum 21 = .ok (.ireturn, 1) := by decide +kernel
theorem dX3_readsSum_22 : decode cX3_readsSum 22 = .ok (.aload_n 0, 1) := by decide +kernel
theorem dX3_readsSum_23 : decode cX3_readsSum 23 = .ok (.iload_n 1, 1) := by decide +kernel
theorem dX3_readsSum_24 : decode cX3_readsSum 24 = .ok (.invokevirtual 69, 3) := by decide +kernel
theorem dX3_readsSum_27 : decode cX3_readsSum 27 = .ok (.aload_n 0, 1) := by decide +kernel
theorem dX3_readsSum_28 : decode cX3_readsSum 28 = .ok (.getfield 22, 3) := by decide +kernel
theorem dX3_readsSum_31 : decode cX3_readsSum 31 = .ok (.invokevirtual 35, 3) := by decide +kernel
theorem dX3_readsSum_34 : decode cX3_readsSum 34 = .ok (.istore 4, 2) := by decide +kernel
theorem dX3_readsSum_36 : decode cX3_readsSum 36 = .ok (.iload 4, 2) := by decide +kernel
theorem dX3_readsSum_38 : decode cX3_readsSum 38 = .ok (.bipush 9, 2) := by decide +kernel
theorem dX3_readsSum_40 : decode cX3_readsSum 40 = .ok (.if_icmp .eq 10, 3) := by decide +kernel
theorem dX3_readsSum_43 : decode cX3_readsSum 43 = .ok (.iload 4, 2) := by decide +kernel
theorem dX3_readsSum_45 : decode cX3_readsSum 45 = .ok (.bipush 10, 2) := by decide +kernel
theorem dX3_readsSum_47 : decode cX3_readsSum 47 = .ok (.if_icmp .ne 8, 3) := by decide +kernel
theorem dX3_readsSum_50 : decode cX3_readsSum 50 = .ok (.iload 4, 2) := by decide +kernel
theorem dX3_readsSum_52 : decode cX3_readsSum 52 = .ok (.goto 4, 3) := by decide +kernel
theorem dX3_readsSum_55 : decode cX3_readsSum 55 = .ok (.iconst 0, 1) := by decide +kernel
theorem dX3_readsSum_56 : decode cX3_readsSum 56 = .ok (.istore_n 1, 1) := by decide +kernel
theorem dX3_readsSum_57 : decode cX3_readsSum 57 = .ok (.iload_n 1, 1) := by decide +kernel
theorem dX3_readsSum_58 : decode cX3_readsSum 58 = .ok (.ifCond .ne 27, 3) := by decide +kernel
theorem dX3_readsSum_61 : decode cX3_readsSum 61 = .ok (.aload_n 0, 1) := by decide +kernel
theorem dX3_readsSum_62 : decode cX3_readsSum 62 = .ok (.iload_n 2, 1) := by decide +kernel
theorem dX3_readsSum_63 : decode cX3_readsSum 63 = .ok (.invokevirtual 69, 3) := by decide +kernel
theorem dX3_readsSum_66 : decode cX3_readsSum 66 = .ok (.iload 4, 2) := by decide +kernel
theorem dX3_readsSum_68 : decode cX3_readsSum 68 = .ok (.istore_n 2, 1) := by decide +kernel
theorem dX3_readsSum_69 : decode cX3_readsSum 69 = .ok (.iload 4, 2) := by decide +kernel
theorem dX3_readsSum_71 : decode cX3_readsSum 71 = .ok (.bipush 7, 2) := by decide +kernel
theorem dX3_readsSum_73 : decode cX3_readsSum 73 = .ok (.if_icmp .eq 12, 3) := by decide +kernel
theorem dX3_readsSum_76 : decode cX3_readsSum 76 = .ok (.iload 4, 2) := by decide +kernel
theorem dX3_readsSum_78 : decode cX3_readsSum 78 = .ok (.bipush 8, 2) := by decide +kernel
theorem dX3_readsSum_80 : decode cX3_readsSum 80 = .ok (.if_icmp .eq 5, 3) := by decide +kernel
theorem dX3_readsSum_83 : decode cX3_readsSum 83 = .ok (.iconst 1, 1) := by decide +kernel
theorem dX3_readsSum_84 : decode cX3_readsSum 84 = .ok (.ireturn, 1) := by decide +kernel
theorem dX3_readsSum_85 : decode cX3_readsSum 85 = .ok (.aload_n 0, 1) := by decide +kernel
theorem dX3_readsSum_86 : decode cX3_readsSum 86 = .ok (.getfield 22, 3) := by decide +kernel
theorem dX3_readsSum_89 : decode cX3_readsSum 89 = .ok (.invokevirtual 39, 3) := by decide +kernel
theorem dX3_readsSum_92 : decode cX3_readsSum 92 = .ok (.iinc 3 1, 3) := by decide +kernel
theorem dX3_readsSum_95 : decode cX3_readsSum 95 = .ok (.goto (-89), 3) := by decide +kernel
theorem dX3_readsSum_98 : decode cX3_readsSum 98 = .ok (.aload_n 0, 1) := by decide +kernel
theorem dX3_readsSum_99 : decode cX3_readsSum 99 = .ok (.getfield 22, 3) := by decide +kernel
theorem dX3_readsSum_102 : decode cX3_readsSum 102 = .ok (.iconst 0, 1) := by decide +kernel
theorem dX3_readsSum_103 : decode cX3_readsSum 103 = .ok (.invokevirtual 28, 3) := by decide +kernel
theorem dX3_readsSum_106 : decode cX3_readsSum 106 = .ok (.ireturn, 1) := by decide +kernel
theorem dX3_addIfThere_0 : decode cX3_addIfThere 0 = .ok (.iload_n 1, 1) := by decide +kernel
theorem dX3_addIfThere_1 : decode cX3_addIfThere 1 = .ok (.ifCond .eq 12, 3) := by decide +kernel
theorem dX3_addIfThere_4 : decode cX3_addIfThere 4 = .ok (.aload_n 0, 1) := by decide +kernel
theorem dX3_addIfThere_5 : decode cX3_addIfThere 5 = .ok (.getfield 12, 3) := by decide +kernel
theorem dX3_addIfThere_8 : decode cX3_addIfThere 8 = .ok (.iload_n 1, 1) := by decide +kernel
theorem dX3_addIfThere_9 : decode cX3_addIfThere 9 = .ok (.ineg, 1) := by decide +kernel
theorem dX3_addIfThere_10 : decode cX3_addIfThere 10 = .ok (.invokevirtual 52, 3) := by decide +kernel
theorem dX3_addIfThere_13 : decode cX3_addIfThere 13 = .ok (.return_, 1) := by decide +kernel
theorem dX3_takes_0 : decode cX3_takes 0 = .ok (.aload_n 0, 1) := by decide +kernel
theorem dX3_takes_1 : decode cX3_takes 1 = .ok (.getfield 22, 3) := by decide +kernel
theorem dX3_takes_4 : decode cX3_takes 4 = .ok (.invokevirtual 35, 3) := by decide +kernel
theorem dX3_takes_7 : decode cX3_takes 7 = .ok (.iload_n 1, 1) := by decide +kernel
theorem dX3_takes_8 : decode cX3_takes 8 = .ok (.if_icmp .eq 5, 3) := by decide +kernel
theorem dX3_takes_11 : decode cX3_takes 11 = .ok (.iconst 0, 1) := by decide +kernel
theorem dX3_takes_12 : decode cX3_takes 12 = .ok (.ireturn, 1) := by decide +kernel
theorem dX3_takes_13 : decode cX3_takes 13 = .ok (.aload_n 0, 1) := by decide +kernel
theorem dX3_takes_14 : decode cX3_takes 14 = .ok (.getfield 22, 3) := by decide +kernel
theorem dX3_takes_17 : decode cX3_takes 17 = .ok (.invokevirtual 39, 3) := by decide +kernel
theorem dX3_takes_20 : decode cX3_takes 20 = .ok (.iconst 1, 1) := by decide +kernel
theorem dX3_takes_21 : decode cX3_takes 21 = .ok (.ireturn, 1) := by decide +kernel
theorem dX3_readsValue_0 : decode cX3_readsValue 0 = .ok (.aload_n 0, 1) := by decide +kernel
theorem dX3_readsValue_1 : decode cX3_readsValue 1 = .ok (.getfield 22, 3) := by decide +kernel
theorem dX3_readsValue_4 : decode cX3_readsValue 4 = .ok (.invokevirtual 35, 3) := by decide +kernel
theorem dX3_readsValue_7 : decode cX3_readsValue 7 = .ok (.istore_n 1, 1) := by decide +kernel
theorem dX3_readsValue_8 : decode cX3_readsValue 8 = .ok (.iload_n 1, 1) := by decide +kernel
theorem dX3_readsValue_9 : decode cX3_readsValue 9 = .ok (.iconst 3, 1) := by decide +kernel
theorem dX3_readsValue_10 : decode cX3_readsValue 10 = .ok (.if_icmp .ne 7, 3) := by decide +kernel
theorem dX3_readsValue_13 : decode cX3_readsValue 13 = .ok (.iconst 1, 1) := by decide +kernel
theorem dX3_readsValue_14 : decode cX3_readsValue 14 = .ok (.goto 4, 3) := by decide +kernel
theorem dX3_readsValue_17 : decode cX3_readsValue 17 = .ok (.iconst 0, 1) := by decide +kernel
theorem dX3_readsValue_18 : decode cX3_readsValue 18 = .ok (.istore_n 2, 1) := by decide +kernel
theorem dX3_readsValue_19 : decode cX3_readsValue 19 = .ok (.iload_n 2, 1) := by decide +kernel
theorem dX3_readsValue_20 : decode cX3_readsValue 20 = .ok (.ifCond .ne 24, 3) := by decide +kernel
theorem dX3_readsValue_23 : decode cX3_readsValue 23 = .ok (.iload_n 1, 1) := by decide +kernel
theorem dX3_readsValue_24 : decode cX3_readsValue 24 = .ok (.bipush 25, 2) := by decide +kernel
theorem dX3_readsValue_26 : decode cX3_readsValue 26 = .ok (.if_icmp .lt 9, 3) := by decide +kernel
theorem dX3_readsValue_29 : decode cX3_readsValue 29 = .ok (.iload_n 1, 1) := by decide +kernel
theorem dX3_readsValue_30 : decode cX3_readsValue 30 = .ok (.bipush 33, 2) := by decide +kernel
theorem dX3_readsValue_32 : decode cX3_readsValue 32 = .ok (.if_icmp .le 12, 3) := by decide +kernel
theorem dX3_readsValue_35 : decode cX3_readsValue 35 = .ok (.aload_n 0, 1) := by decide +kernel
theorem dX3_readsValue_36 : decode cX3_readsValue 36 = .ok (.getfield 22, 3) := by decide +kernel
theorem dX3_readsValue_39 : decode cX3_readsValue 39 = .ok (.iconst 0, 1) := by decide +kernel
theorem dX3_readsValue_40 : decode cX3_readsValue 40 = .ok (.invokevirtual 28, 3) := by decide +kernel
theorem dX3_readsValue_43 : decode cX3_readsValue 43 = .ok (.ireturn, 1) := by decide +kernel
theorem dX3_readsValue_44 : decode cX3_readsValue 44 = .ok (.iload_n 2, 1) := by decide +kernel
theorem dX3_readsValue_45 : decode cX3_readsValue 45 = .ok (.ifCond .eq 22, 3) := by decide +kernel
theorem dX3_readsValue_48 : decode cX3_readsValue 48 = .ok (.aload_n 0, 1) := by decide +kernel
theorem dX3_readsValue_49 : decode cX3_readsValue 49 = .ok (.getfield 22, 3) := by decide +kernel
theorem dX3_readsValue_52 : decode cX3_readsValue 52 = .ok (.invokevirtual 72, 3) := by decide +kernel
theorem dX3_readsValue_55 : decode cX3_readsValue 55 = .ok (.ifCond .ge 12, 3) := by decide +kernel
theorem dX3_readsValue_58 : decode cX3_readsValue 58 = .ok (.aload_n 0, 1) := by decide +kernel
theorem dX3_readsValue_59 : decode cX3_readsValue 59 = .ok (.getfield 22, 3) := by decide +kernel
theorem dX3_readsValue_62 : decode cX3_readsValue 62 = .ok (.iconst 1, 1) := by decide +kernel
theorem dX3_readsValue_63 : decode cX3_readsValue 63 = .ok (.invokevirtual 28, 3) := by decide +kernel
theorem dX3_readsValue_66 : decode cX3_readsValue 66 = .ok (.ireturn, 1) := by decide +kernel
theorem dX3_readsValue_67 : decode cX3_readsValue 67 = .ok (.aload_n 0, 1) := by decide +kernel
theorem dX3_readsValue_68 : decode cX3_readsValue 68 = .ok (.getfield 18, 3) := by decide +kernel
theorem dX3_readsValue_71 : decode cX3_readsValue 71 = .ok (.bipush 60, 2) := by decide +kernel
theorem dX3_readsValue_73 : decode cX3_readsValue 73 = .ok (.if_icmp .lt 12, 3) := by decide +kernel
theorem dX3_readsValue_76 : decode cX3_readsValue 76 = .ok (.aload_n 0, 1) := by decide +kernel
theorem dX3_readsValue_77 : decode cX3_readsValue 77 = .ok (.getfield 22, 3) := by decide +kernel
theorem dX3_readsValue_80 : decode cX3_readsValue 80 = .ok (.iconst 3, 1) := by decide +kernel
theorem dX3_readsValue_81 : decode cX3_readsValue 81 = .ok (.invokevirtual 28, 3) := by decide +kernel
theorem dX3_readsValue_84 : decode cX3_readsValue 84 = .ok (.ireturn, 1) := by decide +kernel
theorem dX3_readsValue_85 : decode cX3_readsValue 85 = .ok (.aload_n 0, 1) := by decide +kernel
theorem dX3_readsValue_86 : decode cX3_readsValue 86 = .ok (.dup, 1) := by decide +kernel
theorem dX3_readsValue_87 : decode cX3_readsValue 87 = .ok (.getfield 18, 3) := by decide +kernel
theorem dX3_readsValue_90 : decode cX3_readsValue 90 = .ok (.iconst 1, 1) := by decide +kernel
theorem dX3_readsValue_91 : decode cX3_readsValue 91 = .ok (.iadd, 1) := by decide +kernel
theorem dX3_readsValue_92 : decode cX3_readsValue 92 = .ok (.putfield 18, 3) := by decide +kernel
theorem dX3_readsValue_95 : decode cX3_readsValue 95 = .ok (.aload_n 0, 1) := by decide +kernel
theorem dX3_readsValue_96 : decode cX3_readsValue 96 = .ok (.getfield 12, 3) := by decide +kernel
theorem dX3_readsValue_99 : decode cX3_readsValue 99 = .ok (.iload_n 2, 1) := by decide +kernel
theorem dX3_readsValue_100 : decode cX3_readsValue 100 = .ok (.ifCond .eq 13, 3) := by decide +kernel
theorem dX3_readsValue_103 : decode cX3_readsValue 103 = .ok (.aload_n 0, 1) := by decide +kernel
theorem dX3_readsValue_104 : decode cX3_readsValue 104 = .ok (.getfield 22, 3) := by decide +kernel
theorem dX3_readsValue_107 : decode cX3_readsValue 107 = .ok (.invokevirtual 72, 3) := by decide +kernel
theorem dX3_readsValue_110 : decode cX3_readsValue 110 = .ok (.goto 5, 3) := by decide +kernel
theorem dX3_readsValue_113 : decode cX3_readsValue 113 = .ok (.iload_n 1, 1) := by decide +kernel
theorem dX3_readsValue_114 : decode cX3_readsValue 114 = .ok (.ineg, 1) := by decide +kernel
theorem dX3_readsValue_115 : decode cX3_readsValue 115 = .ok (.invokevirtual 52, 3) := by decide +kernel
theorem dX3_readsValue_118 : decode cX3_readsValue 118 = .ok (.aload_n 0, 1) := by decide +kernel
theorem dX3_readsValue_119 : decode cX3_readsValue 119 = .ok (.getfield 22, 3) := by decide +kernel
theorem dX3_readsValue_122 : decode cX3_readsValue 122 = .ok (.invokevirtual 39, 3) := by decide +kernel
theorem dX3_readsValue_125 : decode cX3_readsValue 125 = .ok (.iconst 1, 1) := by decide +kernel
theorem dX3_readsValue_126 : decode cX3_readsValue 126 = .ok (.ireturn, 1) := by decide +kernel
theorem dX4_init_0 : decode cX4_init 0 = .ok (.aload_n 0, 1) := by decide +kernel
theorem dX4_init_1 : decode cX4_init 1 = .ok (.invokespecial 3, 3) := by decide +kernel
theorem dX4_init_4 : decode cX4_init 4 = .ok (.aload_n 0, 1) := by decide +kernel
theorem dX4_init_5 : decode cX4_init 5 = .ok (.bipush 12, 2) := by decide +kernel
theorem dX4_init_7 : decode cX4_init 7 = .ok (.newarray .int, 2) := by decide +kernel
theorem dX4_init_9 : decode cX4_init 9 = .ok (.putfield 9, 3) := by decide +kernel
theorem dX4_init_12 : decode cX4_init 12 = .ok (.aload_n 0, 1) := by decide +kernel
theorem dX4_init_13 : decode cX4_init 13 = .ok (.bipush 12, 2) := by decide +kernel
theorem dX4_init_15 : decode cX4_init 15 = .ok (.newarray .int, 2) := by decide +kernel
theorem dX4_init_17 : decode cX4_init 17 = .ok (.putfield 15, 3) := by decide +kernel
theorem dX4_init_20 : decode cX4_init 20 = .ok (.aload_n 0, 1) := by decide +kernel
theorem dX4_init_21 : decode cX4_init 21 = .ok (.bipush 12, 2) := by decide +kernel
theorem dX4_init_23 : decode cX4_init 23 = .ok (.newarray .int, 2) := by decide +kernel
theorem dX4_init_25 : decode cX4_init 25 = .ok (.putfield 18, 3) := by decide +kernel
theorem dX4_init_28 : decode cX4_init 28 = .ok (.aload_n 0, 1) := by decide +kernel
theorem dX4_init_29 : decode cX4_init 29 = .ok (.bipush 12, 2) := by decide +kernel
theorem dX4_init_31 : decode cX4_init 31 = .ok (.newarray .int, 2) := by decide +kernel
theorem dX4_init_33 : decode cX4_init 33 = .ok (.putfield 21, 3) := by decide +kernel
theorem dX4_init_36 : decode cX4_init 36 = .ok (.aload_n 0, 1) := by decide +kernel
theorem dX4_init_37 : decode cX4_init 37 = .ok (.iconst 0, 1) := by decide +kernel
theorem dX4_init_38 : decode cX4_init 38 = .ok (.putfield 24, 3) := by decide +kernel
theorem dX4_init_41 : decode cX4_init 41 = .ok (.aload_n 0, 1) := by decide +kernel
theorem dX4_init_42 : decode cX4_init 42 = .ok (.iconst 0, 1) := by decide +kernel
theorem dX4_init_43 : decode cX4_init 43 = .ok (.putfield 28, 3) := by decide +kernel
theorem dX4_init_46 : decode cX4_init 46 = .ok (.aload_n 0, 1) := by decide +kernel
theorem dX4_init_47 : decode cX4_init 47 = .ok (.iconst 0, 1) := by decide +kernel
theorem dX4_init_48 : decode cX4_init 48 = .ok (.putfield 32, 3) := by decide +kernel
theorem dX4_init_51 : decode cX4_init 51 = .ok (.aload_n 0, 1) := by decide +kernel
theorem dX4_init_52 : decode cX4_init 52 = .ok (.iconst 0, 1) := by decide +kernel
theorem dX4_init_53 : decode cX4_init 53 = .ok (.putfield 35, 3) := by decide +kernel
theorem dX4_init_56 : decode cX4_init 56 = .ok (.aload_n 0, 1) := by decide +kernel
theorem dX4_init_57 : decode cX4_init 57 = .ok (.aload_n 1, 1) := by decide +kernel
theorem dX4_init_58 : decode cX4_init 58 = .ok (.putfield 38, 3) := by decide +kernel
theorem dX4_init_61 : decode cX4_init 61 = .ok (.return_, 1) := by decide +kernel
theorem dX4_startFrom_0 : decode cX4_startFrom 0 = .ok (.aload_n 1, 1) := by decide +kernel
theorem dX4_startFrom_1 : decode cX4_startFrom 1 = .ok (.getfield 42, 3) := by decide +kernel
theorem dX4_startFrom_4 : decode cX4_startFrom 4 = .ok (.iconst 0, 1) := by decide +kernel
theorem dX4_startFrom_5 : decode cX4_startFrom 5 = .ok (.aload_n 0, 1) := by decide +kernel
theorem dX4_startFrom_6 : decode cX4_startFrom 6 = .ok (.getfield 9, 3) := by decide +kernel
theorem dX4_startFrom_9 : decode cX4_startFrom 9 = .ok (.iconst 0, 1) := by decide +kernel
theorem dX4_startFrom_10 : decode cX4_startFrom 10 = .ok (.bipush 12, 2) := by decide +kernel
theorem dX4_startFrom_12 : decode cX4_startFrom 12 = .ok (.invokestatic 47, 3) := by decide +kernel
theorem dX4_startFrom_15 : decode cX4_startFrom 15 = .ok (.return_, 1) := by decide +kernel
theorem dX4_startFromFound_0 : decode cX4_startFromFound 0 = .ok (.iconst 0, 1) := by decide +kernel
theorem dX4_startFromFound_1 : decode cX4_startFromFound 1 = .ok (.istore_n 2, 1) := by decide +kernel
theorem dX4_startFromFound_2 : decode cX4_startFromFound 2 = .ok (.iload_n 2, 1) := by decide +kernel
theorem dX4_startFromFound_3 : decode cX4_startFromFound 3 = .ok (.aload_n 1, 1) := by decide +kernel
theorem dX4_startFromFound_4 : decode cX4_startFromFound 4 = .ok (.getfield 53, 3) := by decide +kernel
theorem dX4_startFromFound_7 : decode cX4_startFromFound 7 = .ok (.if_icmp .ge 38, 3) := by decide +kernel
theorem dX4_startFromFound_10 : decode cX4_startFromFound 10 = .ok (.iload_n 2, 1) := by decide +kernel
theorem dX4_startFromFound_11 : decode cX4_startFromFound 11 = .ok (.bipush 12, 2) := by decide +kernel
theorem dX4_startFromFound_13 : decode cX4_startFromFound 13 = .ok (.if_icmp .ge 32, 3) := by decide +kernel
theorem dX4_startFromFound_16 : decode cX4_startFromFound 16 = .ok (.aload_n 0, 1) := by decide +kernel
theorem dX4_startFromFound_17 : decode cX4_startFromFound 17 = .ok (.getfield 35, 3) := by decide +kernel
theorem dX4_startFromFound_20 : decode cX4_startFromFound 20 = .ok (.iload_n 2, 1) := by decide +kernel
theorem dX4_startFromFound_21 : decode cX4_startFromFound 21 = .ok (.ishr, 1) := by decide +kernel
theorem dX4_startFromFound_22 : decode cX4_startFromFound 22 = .ok (.iconst 1, 1) := by decide +kernel
theorem dX4_startFromFound_23 : decode cX4_startFromFound 23 = .ok (.iand, 1) := by decide +kernel
theorem dX4_startFromFound_24 : decode cX4_startFromFound 24 = .ok (.ifCond .eq 15, 3) := by decide +kernel
theorem dX4_startFromFound_27 : decode cX4_startFromFound 27 = .ok (.aload_n 0, 1) := by decide +kernel
theorem dX4_startFromFound_28 : decode cX4_startFromFound 28 = .ok (.getfield 9, 3) := by decide +kernel
theorem dX4_startFromFound_31 : decode cX4_startFromFound 31 = .ok (.iload_n 2, 1) := by decide +kernel
theorem dX4_startFromFound_32 : decode cX4_startFromFound 32 = .ok (.aload_n 0, 1) := by decide +kernel
theorem dX4_startFromFound_33 : decode cX4_startFromFound 33 = .ok (.getfield 15, 3) := by decide +kernel
theorem dX4_startFromFound_36 : decode cX4_startFromFound 36 = .ok (.iload_n 2, 1) := by decide +kernel
theorem dX4_startFromFound_37 : decode cX4_startFromFound 37 = .ok (.iaload, 1) := by decide +kernel
theorem dX4_startFromFound_38 : decode cX4_startFromFound 38 = .ok (.iastore, 1) := by decide +kernel
theorem dX4_startFromFound_39 : decode cX4_startFromFound 39 = .ok (.iinc 2 1, 3) := by decide +kernel
theorem dX4_startFromFound_42 : decode cX4_startFromFound 42 = .ok (.goto (-40), 3) := by decide +kernel
theorem dX4_startFromFound_45 : decode cX4_startFromFound 45 = .ok (.return_, 1) := by decide +kernel
theorem dX4_bendTo_0 : decode cX4_bendTo 0 = .ok (.iconst 0, 1) := by decide +kernel
theorem dX4_bendTo_1 : decode cX4_bendTo 1 = .ok (.istore_n 3, 1) := by decide +kernel
theorem dX4_bendTo_2 : decode cX4_bendTo 2 = .ok (.iload_n 3, 1) := by decide +kernel
theorem dX4_bendTo_3 : decode cX4_bendTo 3 = .ok (.aload_n 1, 1) := by decide +kernel
theorem dX4_bendTo_4 : decode cX4_bendTo 4 = .ok (.getfield 53, 3) := by decide +kernel
theorem dX4_bendTo_7 : decode cX4_bendTo 7 = .ok (.if_icmp .ge 44, 3) := by decide +kernel
theorem dX4_bendTo_10 : decode cX4_bendTo 10 = .ok (.iload_n 3, 1) := by decide +kernel
theorem dX4_bendTo_11 : decode cX4_bendTo 11 = .ok (.bipush 12, 2) := by decide +kernel
theorem dX4_bendTo_13 : decode cX4_bendTo 13 = .ok (.if_icmp .ge 38, 3) := by decide +kernel
theorem dX4_bendTo_16 : decode cX4_bendTo 16 = .ok (.aload_n 0, 1) := by decide +kernel
theorem dX4_bendTo_17 : decode cX4_bendTo 17 = .ok (.getfield 15, 3) := by decide +kernel
theorem dX4_bendTo_20 : decode cX4_bendTo 20 = .ok (.iload_n 3, 1) := by decide +kernel
theorem dX4_bendTo_21 : decode cX4_bendTo 21 = .ok (.iload_n 2, 1) := by decide +kernel
theorem dX4_bendTo_22 : decode cX4_bendTo 22 = .ok (.iastore, 1) := by decide +kernel
theorem dX4_bendTo_23 : decode cX4_bendTo 23 = .ok (.aload_n 0, 1) := by decide +kernel
theorem dX4_bendTo_24 : decode cX4_bendTo 24 = .ok (.getfield 18, 3) := by decide +kernel
theorem dX4_bendTo_27 : decode cX4_bendTo 27 = .ok (.iload_n 3, 1) := by decide +kernel
theorem dX4_bendTo_28 : decode cX4_bendTo 28 = .ok (.aload_n 1, 1) := by decide +kernel
theorem dX4_bendTo_29 : decode cX4_bendTo 29 = .ok (.getfield 56, 3) := by decide +kernel
theorem dX4_bendTo_32 : decode cX4_bendTo 32 = .ok (.iload_n 3, 1) := by decide +kernel
theorem dX4_bendTo_33 : decode cX4_bendTo 33 = .ok (.iaload, 1) := by decide +kernel
theorem dX4_bendTo_34 : decode cX4_bendTo 34 = .ok (.aload_n 0, 1) := by decide +kernel
theorem dX4_bendTo_35 : decode cX4_bendTo 35 = .ok (.getfield 9, 3) := by decide +kernel
theorem dX4_bendTo_38 : decode cX4_bendTo 38 = .ok (.iload_n 3, 1) := by decide +kernel
theorem dX4_bendTo_39 : decode cX4_bendTo 39 = .ok (.iaload, 1) := by decide +kernel
theorem dX4_bendTo_40 : decode cX4_bendTo 40 = .ok (.iload_n 2, 1) := by decide +kernel
theorem dX4_bendTo_41 : decode cX4_bendTo 41 = .ok (.invokestatic 59, 3) := by decide +kernel
theorem dX4_bendTo_44 : decode cX4_bendTo 44 = .ok (.iastore, 1) := by decide +kernel
theorem dX4_bendTo_45 : decode cX4_bendTo 45 = .ok (.iinc 3 1, 3) := by decide +kernel
theorem dX4_bendTo_48 : decode cX4_bendTo 48 = .ok (.goto (-46), 3) := by decide +kernel
theorem dX4_bendTo_51 : decode cX4_bendTo 51 = .ok (.return_, 1) := by decide +kernel
theorem dX4_bendEachForOne_0 : decode cX4_bendEachForOne 0 = .ok (.iconst 0, 1) := by decide +kernel
theorem dX4_bendEachForOne_1 : decode cX4_bendEachForOne 1 = .ok (.istore_n 3, 1) := by decide +kernel
theorem dX4_bendEachForOne_2 : decode cX4_bendEachForOne 2 = .ok (.iload_n 3, 1) := by decide +kernel
theorem dX4_bendEachForOne_3 : decode cX4_bendEachForOne 3 = .ok (.aload_n 1, 1) := by decide +kernel
theorem dX4_bendEachForOne_4 : decode cX4_bendEachForOne 4 = .ok (.getfield 53, 3) := by decide +kernel
theorem dX4_bendEachForOne_7 : decode cX4_bendEachForOne 7 = .ok (.if_icmp .ge 29, 3) := by decide +kernel
theorem dX4_bendEachForOne_10 : decode cX4_bendEachForOne 10 = .ok (.iload_n 3, 1) := by decide +kernel
theorem dX4_bendEachForOne_11 : decode cX4_bendEachForOne 11 = .ok (.bipush 12, 2) := by decide +kernel
theorem dX4_bendEachForOne_13 : decode cX4_bendEachForOne 13 = .ok (.if_icmp .ge 23, 3) := by decide +kernel
theorem dX4_bendEachForOne_16 : decode cX4_bendEachForOne 16 = .ok (.aload_n 0, 1) := by decide +kernel
theorem dX4_bendEachForOne_17 : decode cX4_bendEachForOne 17 = .ok (.getfield 15, 3) := by decide +kernel
theorem dX4_bendEachForOne_20 : decode cX4_bendEachForOne 20 = .ok (.iload_n 3, 1) := by decide +kernel
theorem dX4_bendEachForOne_21 : decode cX4_bendEachForOne 21 = .ok (.iload_n 2, 1) := by decide +kernel
theorem dX4_bendEachForOne_22 : decode cX4_bendEachForOne 22 = .ok (.iastore, 1) := by decide +kernel
theorem dX4_bendEachForOne_23 : decode cX4_bendEachForOne 23 = .ok (.aload_n 0, 1) := by decide +kernel
theorem dX4_bendEachForOne_24 : decode cX4_bendEachForOne 24 = .ok (.getfield 18, 3) := by decide +kernel
theorem dX4_bendEachForOne_27 : decode cX4_bendEachForOne 27 = .ok (.iload_n 3, 1) := by decide +kernel
theorem dX4_bendEachForOne_28 : decode cX4_bendEachForOne 28 = .ok (.iconst 1, 1) := by decide +kernel
theorem dX4_bendEachForOne_29 : decode cX4_bendEachForOne 29 = .ok (.iastore, 1) := by decide +kernel
theorem dX4_bendEachForOne_30 : decode cX4_bendEachForOne 30 = .ok (.iinc 3 1, 3) := by decide +kernel
theorem dX4_bendEachForOne_33 : decode cX4_bendEachForOne 33 = .ok (.goto (-31), 3) := by decide +kernel
theorem dX4_bendEachForOne_36 : decode cX4_bendEachForOne 36 = .ok (.return_, 1) := by decide +kernel
theorem dX4_told_0 : decode cX4_told 0 = .ok (.aload_n 0, 1) := by decide +kernel
theorem dX4_told_1 : decode cX4_told 1 = .ok (.getfield 28, 3) := by decide +kernel
theorem dX4_told_4 : decode cX4_told 4 = .ok (.ifCond .ne 8, 3) := by decide +kernel
theorem dX4_told_7 : decode cX4_told 7 = .ok (.bipush (-2), 2) := by decide +kernel
theorem dX4_told_9 : decode cX4_told 9 = .ok (.goto 18, 3) := by decide +kernel
theorem dX4_told_12 : decode cX4_told 12 = .ok (.iload_n 1, 1) := by decide +kernel
theorem dX4_told_13 : decode cX4_told 13 = .ok (.ifCond .ne 10, 3) := by decide +kernel
theorem dX4_told_16 : decode cX4_told 16 = .ok (.aload_n 0, 1) := by decide +kernel
theorem dX4_told_17 : decode cX4_told 17 = .ok (.getfield 32, 3) := by decide +kernel
theorem dX4_told_20 : decode cX4_told 20 = .ok (.goto 7, 3) := by decide +kernel
theorem dX4_told_23 : decode cX4_told 23 = .ok (.aload_n 0, 1) := by decide +kernel
theorem dX4_told_24 : decode cX4_told 24 = .ok (.getfield 35, 3) := by decide +kernel
theorem dX4_told_27 : decode cX4_told 27 = .ok (.ireturn, 1) := by decide +kernel
theorem dX4_run_0 : decode cX4_run 0 = .ok (.aload_n 0, 1) := by decide +kernel
theorem dX4_run_1 : decode cX4_run 1 = .ok (.aload_n 1, 1) := by decide +kernel
theorem dX4_run_2 : decode cX4_run 2 = .ok (.iload 4, 2) := by decide +kernel
theorem dX4_run_4 : decode cX4_run 4 = .ok (.invokevirtual 63, 3) := by decide +kernel
theorem dX4_run_7 : decode cX4_run 7 = .ok (.aload_n 0, 1) := by decide +kernel
theorem dX4_run_8 : decode cX4_run 8 = .ok (.getfield 38, 3) := by decide +kernel
theorem dX4_run_11 : decode cX4_run 11 = .ok (.aload_n 1, 1) := by decide +kernel
theorem dX4_run_12 : decode cX4_run 12 = .ok (.aload_n 0, 1) := by decide +kernel
theorem dX4_run_13 : decode cX4_run 13 = .ok (.getfield 9, 3) := by decide +kernel
theorem dX4_run_16 : decode cX4_run 16 = .ok (.invokevirtual 67, 3) := by decide +kernel
theorem dX4_run_19 : decode cX4_run 19 = .ok (.aload_n 0, 1) := by decide +kernel
theorem dX4_run_20 : decode cX4_run 20 = .ok (.iconst 0, 1) := by decide +kernel
theorem dX4_run_21 : decode cX4_run 21 = .ok (.putfield 28, 3) := by decide +kernel
theorem dX4_run_24 : decode cX4_run 24 = .ok (.aload_n 0, 1) := by decide +kernel
theorem dX4_run_25 : decode cX4_run 25 = .ok (.iconst 0, 1) := by decide +kernel
theorem dX4_run_26 : decode cX4_run 26 = .ok (.putfield 32, 3) := by decide +kernel
theorem dX4_run_29 : decode cX4_run 29 = .ok (.aload_n 0, 1) := by decide +kernel
theorem dX4_run_30 : decode cX4_run 30 = .ok (.iconst 0, 1) := by decide +kernel
theorem dX4_run_31 : decode cX4_run 31 = .ok (.putfield 35, 3) := by decide +kernel
theorem dX4_run_34 : decode cX4_run 34 = .ok (.iconst 0, 1) := by decide +kernel
theorem dX4_run_35 : decode cX4_run 35 = .ok (.istore 5, 2) := by decide +kernel
theorem dX4_run_37 : decode cX4_run 37 = .ok (.iconst 0, 1) := by decide +kernel
theorem dX4_run_38 : decode cX4_run 38 = .ok (.istore 6, 2) := by decide +kernel
theorem dX4_run_40 : decode cX4_run 40 = .ok (.iconst 0, 1) := by decide +kernel
theorem dX4_run_41 : decode cX4_run 41 = .ok (.istore 7, 2) := by decide +kernel
theorem dX4_run_43 : decode cX4_run 43 = .ok (.iload 7, 2) := by decide +kernel
theorem dX4_run_45 : decode cX4_run 45 = .ok (.iconst 1, 1) := by decide +kernel
theorem dX4_run_46 : decode cX4_run 46 = .ok (.aload_n 0, 1) := by decide +kernel
theorem dX4_run_47 : decode cX4_run 47 = .ok (.getfield 24, 3) := by decide +kernel
theorem dX4_run_50 : decode cX4_run 50 = .ok (.ishl, 1) := by decide +kernel
theorem dX4_run_51 : decode cX4_run 51 = .ok (.if_icmp .ge 120, 3) := by decide +kernel
theorem dX4_run_54 : decode cX4_run 54 = .ok (.iload 7, 2) := by decide +kernel
theorem dX4_run_56 : decode cX4_run 56 = .ok (.sipush 4096, 3) := by decide +kernel
theorem dX4_run_59 : decode cX4_run 59 = .ok (.if_icmp .ge 112, 3) := by decide +kernel
theorem dX4_run_62 : decode cX4_run 62 = .ok (.iload 6, 2) := by decide +kernel
theorem dX4_run_64 : decode cX4_run 64 = .ok (.aload_n 0, 1) := by decide +kernel
theorem dX4_run_65 : decode cX4_run 65 = .ok (.iload 7, 2) := by decide +kernel
theorem dX4_run_67 : decode cX4_run 67 = .ok (.invokevirtual 73, 3) := by decide +kernel
theorem dX4_run_70 : decode cX4_run 70 = .ok (.iadd, 1) := by decide +kernel
theorem dX4_run_71 : decode cX4_run 71 = .ok (.istore 6, 2) := by decide +kernel
theorem dX4_run_73 : decode cX4_run 73 = .ok (.aload_n 0, 1) := by decide +kernel
theorem dX4_run_74 : decode cX4_run 74 = .ok (.getfield 28, 3) := by decide +kernel
theorem dX4_run_77 : decode cX4_run 77 = .ok (.ifCond .eq 34, 3) := by decide +kernel
theorem dX4_run_80 : decode cX4_run 80 = .ok (.iload 6, 2) := by decide +kernel
theorem dX4_run_82 : decode cX4_run 82 = .ok (.aload_n 0, 1) := by decide +kernel
theorem dX4_run_83 : decode cX4_run 83 = .ok (.getfield 32, 3) := by decide +kernel
theorem dX4_run_86 : decode cX4_run 86 = .ok (.if_icmp .lt 25, 3) := by decide +kernel
theorem dX4_run_89 : decode cX4_run 89 = .ok (.iload 6, 2) := by decide +kernel
theorem dX4_run_91 : decode cX4_run 91 = .ok (.aload_n 0, 1) := by decide +kernel
theorem dX4_run_92 : decode cX4_run 92 = .ok (.getfield 32, 3) := by decide +kernel
theorem dX4_run_95 : decode cX4_run 95 = .ok (.if_icmp .ne 20, 3) := by decide +kernel
theorem dX4_run_98 : decode cX4_run 98 = .ok (.iload 7, 2) := by decide +kernel
theorem dX4_run_100 : decode cX4_run 100 = .ok (.invokestatic 77, 3) := by decide +kernel
theorem dX4_run_103 : decode cX4_run 103 = .ok (.iload 5, 2) := by decide +kernel
theorem dX4_run_105 : decode cX4_run 105 = .ok (.invokestatic 77, 3) := by decide +kernel
theorem dX4_run_108 : decode cX4_run 108 = .ok (.if_icmp .ge 7, 3) := by decide +kernel
theorem dX4_run_111 : decode cX4_run 111 = .ok (.iconst 1, 1) := by decide +kernel
theorem dX4_run_112 : decode cX4_run 112 = .ok (.goto 4, 3) := by decide +kernel
theorem dX4_run_115 : decode cX4_run 115 = .ok (.iconst 0, 1) := by decide +kernel
theorem dX4_run_116 : decode cX4_run 116 = .ok (.istore 8, 2) := by decide +kernel
theorem dX4_run_118 : decode cX4_run 118 = .ok (.iload 8, 2) := by decide +kernel
theorem dX4_run_120 : decode cX4_run 120 = .ok (.ifCond .eq 30, 3) := by decide +kernel
theorem dX4_run_123 : decode cX4_run 123 = .ok (.aload_n 0, 1) := by decide +kernel
theorem dX4_run_124 : decode cX4_run 124 = .ok (.getfield 38, 3) := by decide +kernel
theorem dX4_run_127 : decode cX4_run 127 = .ok (.iload_n 2, 1) := by decide +kernel
theorem dX4_run_128 : decode cX4_run 128 = .ok (.invokevirtual 82, 3) := by decide +kernel
theorem dX4_run_131 : decode cX4_run 131 = .ok (.iload_n 3, 1) := by decide +kernel
theorem dX4_run_132 : decode cX4_run 132 = .ok (.if_icmp .ne 18, 3) := by decide +kernel
theorem dX4_run_135 : decode cX4_run 135 = .ok (.aload_n 0, 1) := by decide +kernel
theorem dX4_run_136 : decode cX4_run 136 = .ok (.iconst 1, 1) := by decide +kernel
theorem dX4_run_137 : decode cX4_run 137 = .ok (.putfield 28, 3) := by decide +kernel
theorem dX4_run_140 : decode cX4_run 140 = .ok (.aload_n 0, 1) := by decide +kernel
theorem dX4_run_141 : decode cX4_run 141 = .ok (.iload 6, 2) := by decide +kernel
theorem dX4_run_143 : decode cX4_run 143 = .ok (.putfield 32, 3) := by decide +kernel
theorem dX4_run_146 : decode cX4_run 146 = .ok (.iload 7, 2) := by decide +kernel
theorem dX4_run_148 : decode cX4_run 148 = .ok (.istore 5, 2) := by decide +kernel
theorem dX4_run_150 : decode cX4_run 150 = .ok (.aload_n 0, 1) := by decide +kernel
theorem dX4_run_151 : decode cX4_run 151 = .ok (.getfield 28, 3) := by decide +kernel
theorem dX4_run_154 : decode cX4_run 154 = .ok (.ifCond .eq 11, 3) := by decide +kernel
theorem dX4_run_157 : decode cX4_run 157 = .ok (.iload 5, 2) := by decide +kernel
theorem dX4_run_159 : decode cX4_run 159 = .ok (.ifCond .ne 6, 3) := by decide +kernel
theorem dX4_run_162 : decode cX4_run 162 = .ok (.goto 9, 3) := by decide +kernel
theorem dX4_run_165 : decode cX4_run 165 = .ok (.iinc 7 1, 3) := by decide +kernel
theorem dX4_run_168 : decode cX4_run 168 = .ok (.goto (-125), 3) := by decide +kernel
theorem dX4_run_171 : decode cX4_run 171 = .ok (.aload_n 0, 1) := by decide +kernel
theorem dX4_run_172 : decode cX4_run 172 = .ok (.aload_n 0, 1) := by decide +kernel
theorem dX4_run_173 : decode cX4_run 173 = .ok (.iload 5, 2) := by decide +kernel
theorem dX4_run_175 : decode cX4_run 175 = .ok (.invokevirtual 85, 3) := by decide +kernel
theorem dX4_run_178 : decode cX4_run 178 = .ok (.putfield 35, 3) := by decide +kernel
theorem dX4_run_181 : decode cX4_run 181 = .ok (.return_, 1) := by decide +kernel
theorem dX4_unlikeCases_0 : decode cX4_unlikeCases 0 = .ok (.aload_n 0, 1) := by decide +kernel
theorem dX4_unlikeCases_1 : decode cX4_unlikeCases 1 = .ok (.iconst 0, 1) := by decide +kernel
theorem dX4_unlikeCases_2 : decode cX4_unlikeCases 2 = .ok (.putfield 24, 3) := by decide +kernel
theorem dX4_unlikeCases_5 : decode cX4_unlikeCases 5 = .ok (.iconst 0, 1) := by decide +kernel
theorem dX4_unlikeCases_6 : decode cX4_unlikeCases 6 = .ok (.istore 6, 2) := by decide +kernel
theorem dX4_unlikeCases_8 : decode cX4_unlikeCases 8 = .ok (.iload 6, 2) := by decide +kernel
theorem dX4_unlikeCases_10 : decode cX4_unlikeCases 10 = .ok (.aload_n 1, 1) := by decide +kernel
theorem dX4_unlikeCases_11 : decode cX4_unlikeCases 11 = .ok (.getfield 53, 3) := by decide +kernel
theorem dX4_unlikeCases_14 : decode cX4_unlikeCases 14 = .ok (.if_icmp .ge 46, 3) := by decide +kernel
theorem dX4_unlikeCases_17 : decode cX4_unlikeCases 17 = .ok (.iload 6, 2) := by decide +kernel
theorem dX4_unlikeCases_19 : decode cX4_unlikeCases 19 = .ok (.bipush 12, 2) := by decide +kernel
theorem dX4_unlikeCases_21 : decode cX4_unlikeCases 21 = .ok (.if_icmp .ge 39, 3) := by decide +kernel
theorem dX4_unlikeCases_24 : decode cX4_unlikeCases 24 = .ok (.aload_n 0, 1) := by decide +kernel
theorem dX4_unlikeCases_25 : decode cX4_unlikeCases 25 = .ok (.getfield 9, 3) := by decide +kernel
theorem dX4_unlikeCases_28 : decode cX4_unlikeCases 28 = .ok (.iload 6, 2) := by decide +kernel
theorem dX4_unlikeCases_30 : decode cX4_unlikeCases 30 = .ok (.iload 4, 2) := by decide +kernel
theorem dX4_unlikeCases_32 : decode cX4_unlikeCases 32 = .ok (.iastore, 1) := by decide +kernel
theorem dX4_unlikeCases_33 : decode cX4_unlikeCases 33 = .ok (.aload_n 0, 1) := by decide +kernel
theorem dX4_unlikeCases_34 : decode cX4_unlikeCases 34 = .ok (.getfield 15, 3) := by decide +kernel
theorem dX4_unlikeCases_37 : decode cX4_unlikeCases 37 = .ok (.iload 6, 2) := by decide +kernel
theorem dX4_unlikeCases_39 : decode cX4_unlikeCases 39 = .ok (.iload 5, 2) := by decide +kernel
theorem dX4_unlikeCases_41 : decode cX4_unlikeCases 41 = .ok (.iastore, 1) := by decide +kernel
theorem dX4_unlikeCases_42 : decode cX4_unlikeCases 42 = .ok (.iload 6, 2) := by decide +kernel
theorem dX4_unlikeCases_44 : decode cX4_unlikeCases 44 = .ok (.iload_n 3, 1) := by decide +kernel
theorem dX4_unlikeCases_45 : decode cX4_unlikeCases 45 = .ok (.if_icmp .eq 9, 3) := by decide +kernel
theorem dX4_unlikeCases_48 : decode cX4_unlikeCases 48 = .ok (.aload_n 0, 1) := by decide +kernel
theorem dX4_unlikeCases_49 : decode cX4_unlikeCases 49 = .ok (.iload 6, 2) := by decide +kernel
theorem dX4_unlikeCases_51 : decode cX4_unlikeCases 51 = .ok (.invokevirtual 88, 3) := by decide +kernel
theorem dX4_unlikeCases_54 : decode cX4_unlikeCases 54 = .ok (.iinc 6 1, 3) := by decide +kernel
theorem dX4_unlikeCases_57 : decode cX4_unlikeCases 57 = .ok (.goto (-49), 3) := by decide +kernel
theorem dX4_unlikeCases_60 : decode cX4_unlikeCases 60 = .ok (.aload_n 0, 1) := by decide +kernel
theorem dX4_unlikeCases_61 : decode cX4_unlikeCases 61 = .ok (.getfield 38, 3) := by decide +kernel
theorem dX4_unlikeCases_64 : decode cX4_unlikeCases 64 = .ok (.aload_n 1, 1) := by decide +kernel
theorem dX4_unlikeCases_65 : decode cX4_unlikeCases 65 = .ok (.aload_n 0, 1) := by decide +kernel
theorem dX4_unlikeCases_66 : decode cX4_unlikeCases 66 = .ok (.getfield 9, 3) := by decide +kernel
theorem dX4_unlikeCases_69 : decode cX4_unlikeCases 69 = .ok (.invokevirtual 67, 3) := by decide +kernel
theorem dX4_unlikeCases_72 : decode cX4_unlikeCases 72 = .ok (.iconst 0, 1) := by decide +kernel
theorem dX4_unlikeCases_73 : decode cX4_unlikeCases 73 = .ok (.istore 6, 2) := by decide +kernel
theorem dX4_unlikeCases_75 : decode cX4_unlikeCases 75 = .ok (.iconst 0, 1) := by decide +kernel
theorem dX4_unlikeCases_76 : decode cX4_unlikeCases 76 = .ok (.istore 7, 2) := by decide +kernel
theorem dX4_unlikeCases_78 : decode cX4_unlikeCases 78 = .ok (.iload 7, 2) := by decide +kernel
theorem dX4_unlikeCases_80 : decode cX4_unlikeCases 80 = .ok (.iconst 1, 1) := by decide +kernel
theorem dX4_unlikeCases_81 : decode cX4_unlikeCases 81 = .ok (.aload_n 0, 1) := by decide +kernel
theorem dX4_unlikeCases_82 : decode cX4_unlikeCases 82 = .ok (.getfield 24, 3) := by decide +kernel
theorem dX4_unlikeCases_85 : decode cX4_unlikeCases 85 = .ok (.ishl, 1) := by decide +kernel
theorem dX4_unlikeCases_86 : decode cX4_unlikeCases 86 = .ok (.if_icmp .ge 70, 3) := by decide +kernel
theorem dX4_unlikeCases_89 : decode cX4_unlikeCases 89 = .ok (.iload 7, 2) := by decide +kernel
theorem dX4_unlikeCases_91 : decode cX4_unlikeCases 91 = .ok (.sipush 4096, 3) := by decide +kernel
theorem dX4_unlikeCases_94 : decode cX4_unlikeCases 94 = .ok (.if_icmp .ge 62, 3) := by decide +kernel
theorem dX4_unlikeCases_97 : decode cX4_unlikeCases 97 = .ok (.aload_n 0, 1) := by decide +kernel
theorem dX4_unlikeCases_98 : decode cX4_unlikeCases 98 = .ok (.iload 7, 2) := by decide +kernel
theorem dX4_unlikeCases_100 : decode cX4_unlikeCases 100 = .ok (.invokevirtual 73, 3) := by decide +kernel
theorem dX4_unlikeCases_103 : decode cX4_unlikeCases 103 = .ok (.pop, 1) := by decide +kernel
theorem dX4_unlikeCases_104 : decode cX4_unlikeCases 104 = .ok (.aload_n 0, 1) := by decide +kernel
theorem dX4_unlikeCases_105 : decode cX4_unlikeCases 105 = .ok (.getfield 38, 3) := by decide +kernel
theorem dX4_unlikeCases_108 : decode cX4_unlikeCases 108 = .ok (.iload_n 3, 1) := by decide +kernel
theorem dX4_unlikeCases_109 : decode cX4_unlikeCases 109 = .ok (.iload 4, 2) := by decide +kernel
theorem dX4_unlikeCases_111 : decode cX4_unlikeCases 111 = .ok (.invokevirtual 92, 3) := by decide +kernel
theorem dX4_unlikeCases_114 : decode cX4_unlikeCases 114 = .ok (.aload_n 0, 1) := by decide +kernel
theorem dX4_unlikeCases_115 : decode cX4_unlikeCases 115 = .ok (.getfield 38, 3) := by decide +kernel
theorem dX4_unlikeCases_118 : decode cX4_unlikeCases 118 = .ok (.iload_n 2, 1) := by decide +kernel
theorem dX4_unlikeCases_119 : decode cX4_unlikeCases 119 = .ok (.invokevirtual 82, 3) := by decide +kernel
theorem dX4_unlikeCases_122 : decode cX4_unlikeCases 122 = .ok (.istore 8, 2) := by decide +kernel
theorem dX4_unlikeCases_124 : decode cX4_unlikeCases 124 = .ok (.aload_n 0, 1) := by decide +kernel
theorem dX4_unlikeCases_125 : decode cX4_unlikeCases 125 = .ok (.getfield 38, 3) := by decide +kernel
theorem dX4_unlikeCases_128 : decode cX4_unlikeCases 128 = .ok (.iload_n 3, 1) := by decide +kernel
theorem dX4_unlikeCases_129 : decode cX4_unlikeCases 129 = .ok (.iload 5, 2) := by decide +kernel
theorem dX4_unlikeCases_131 : decode cX4_unlikeCases 131 = .ok (.invokevirtual 92, 3) := by decide +kernel
theorem dX4_unlikeCases_134 : decode cX4_unlikeCases 134 = .ok (.aload_n 0, 1) := by decide +kernel
theorem dX4_unlikeCases_135 : decode cX4_unlikeCases 135 = .ok (.getfield 38, 3) := by decide +kernel
theorem dX4_unlikeCases_138 : decode cX4_unlikeCases 138 = .ok (.iload_n 2, 1) := by decide +kernel
theorem dX4_unlikeCases_139 : decode cX4_unlikeCases 139 = .ok (.invokevirtual 82, 3) := by decide +kernel
theorem dX4_unlikeCases_142 : decode cX4_unlikeCases 142 = .ok (.iload 8, 2) := by decide +kernel
theorem dX4_unlikeCases_144 : decode cX4_unlikeCases 144 = .ok (.if_icmp .eq 6, 3) := by decide +kernel
theorem dX4_unlikeCases_147 : decode cX4_unlikeCases 147 = .ok (.iinc 6 1, 3) := by decide +kernel
theorem dX4_unlikeCases_150 : decode cX4_unlikeCases 150 = .ok (.iinc 7 1, 3) := by decide +kernel
theorem dX4_unlikeCases_153 : decode cX4_unlikeCases 153 = .ok (.goto (-75), 3) := by decide +kernel
theorem dX4_unlikeCases_156 : decode cX4_unlikeCases 156 = .ok (.iload 6, 2) := by decide +kernel
theorem dX4_unlikeCases_158 : decode cX4_unlikeCases 158 = .ok (.ireturn, 1) := by decide +kernel
theorem dX4_listFree_0 : decode cX4_listFree 0 = .ok (.aload_n 0, 1) := by decide +kernel
theorem dX4_listFree_1 : decode cX4_listFree 1 = .ok (.iconst 0, 1) := by decide +kernel
theorem dX4_listFree_2 : decode cX4_listFree 2 = .ok (.putfield 24, 3) := by decide +kernel
theorem dX4_listFree_5 : decode cX4_listFree 5 = .ok (.iconst 0, 1) := by decide +kernel
theorem dX4_listFree_6 : decode cX4_listFree 6 = .ok (.istore_n 3, 1) := by decide +kernel
theorem dX4_listFree_7 : decode cX4_listFree 7 = .ok (.iload_n 3, 1) := by decide +kernel
theorem dX4_listFree_8 : decode cX4_listFree 8 = .ok (.aload_n 1, 1) := by decide +kernel
theorem dX4_listFree_9 : decode cX4_listFree 9 = .ok (.getfield 53, 3) := by decide +kernel
theorem dX4_listFree_12 : decode cX4_listFree 12 = .ok (.if_icmp .ge 43, 3) := by decide +kernel
theorem dX4_listFree_15 : decode cX4_listFree 15 = .ok (.iload_n 3, 1) := by decide +kernel
theorem dX4_listFree_16 : decode cX4_listFree 16 = .ok (.bipush 12, 2) := by decide +kernel
theorem dX4_listFree_18 : decode cX4_listFree 18 = .ok (.if_icmp .ge 37, 3) := by decide +kernel
theorem dX4_listFree_21 : decode cX4_listFree 21 = .ok (.iload_n 2, 1) := by decide +kernel
theorem dX4_listFree_22 : decode cX4_listFree 22 = .ok (.iload_n 3, 1) := by decide +kernel
theorem dX4_listFree_23 : decode cX4_listFree 23 = .ok (.ishr, 1) := by decide +kernel
theorem dX4_listFree_24 : decode cX4_listFree 24 = .ok (.iconst 1, 1) := by decide +kernel
theorem dX4_listFree_25 : decode cX4_listFree 25 = .ok (.iand, 1) := by decide +kernel
theorem dX4_listFree_26 : decode cX4_listFree 26 = .ok (.ifCond .eq 23, 3) := by decide +kernel
theorem dX4_listFree_29 : decode cX4_listFree 29 = .ok (.aload_n 0, 1) := by decide +kernel
theorem dX4_listFree_30 : decode cX4_listFree 30 = .ok (.getfield 9, 3) := by decide +kernel
theorem dX4_listFree_33 : decode cX4_listFree 33 = .ok (.iload_n 3, 1) := by decide +kernel
theorem dX4_listFree_34 : decode cX4_listFree 34 = .ok (.iaload, 1) := by decide +kernel
theorem dX4_listFree_35 : decode cX4_listFree 35 = .ok (.aload_n 0, 1) := by decide +kernel
theorem dX4_listFree_36 : decode cX4_listFree 36 = .ok (.getfield 15, 3) := by decide +kernel
theorem dX4_listFree_39 : decode cX4_listFree 39 = .ok (.iload_n 3, 1) := by decide +kernel
theorem dX4_listFree_40 : decode cX4_listFree 40 = .ok (.iaload, 1) := by decide +kernel
theorem dX4_listFree_41 : decode cX4_listFree 41 = .ok (.if_icmp .eq 8, 3) := by decide +kernel
theorem dX4_listFree_44 : decode cX4_listFree 44 = .ok (.aload_n 0, 1) := by decide +kernel
theorem dX4_listFree_45 : decode cX4_listFree 45 = .ok (.iload_n 3, 1) := by decide +kernel
theorem dX4_listFree_46 : decode cX4_listFree 46 = .ok (.invokevirtual 88, 3) := by decide +kernel
theorem dX4_listFree_49 : decode cX4_listFree 49 = .ok (.iinc 3 1, 3) := by decide +kernel
theorem dX4_listFree_52 : decode cX4_listFree 52 = .ok (.goto (-45), 3) := by decide +kernel
theorem dX4_listFree_55 : decode cX4_listFree 55 = .ok (.return_, 1) := by decide +kernel
theorem dX4_addFree_0 : decode cX4_addFree 0 = .ok (.aload_n 0, 1) := by decide +kernel
theorem dX4_addFree_1 : decode cX4_addFree 1 = .ok (.getfield 24, 3) := by decide +kernel
theorem dX4_addFree_4 : decode cX4_addFree 4 = .ok (.bipush 12, 2) := by decide +kernel
theorem dX4_addFree_6 : decode cX4_addFree 6 = .ok (.invokestatic 96, 3) := by decide +kernel
theorem dX4_addFree_9 : decode cX4_addFree 9 = .ok (.ifCond .eq 23, 3) := by decide +kernel
theorem dX4_addFree_12 : decode cX4_addFree 12 = .ok (.aload_n 0, 1) := by decide +kernel
theorem dX4_addFree_13 : decode cX4_addFree 13 = .ok (.getfield 21, 3) := by decide +kernel
theorem dX4_addFree_16 : decode cX4_addFree 16 = .ok (.aload_n 0, 1) := by decide +kernel
theorem dX4_addFree_17 : decode cX4_addFree 17 = .ok (.getfield 24, 3) := by decide +kernel
theorem dX4_addFree_20 : decode cX4_addFree 20 = .ok (.iload_n 1, 1) := by decide +kernel
theorem dX4_addFree_21 : decode cX4_addFree 21 = .ok (.iastore, 1) := by decide +kernel
theorem dX4_addFree_22 : decode cX4_addFree 22 = .ok (.aload_n 0, 1) := by decide +kernel
theorem dX4_addFree_23 : decode cX4_addFree 23 = .ok (.dup, 1) := by decide +kernel
theorem dX4_addFree_24 : decode cX4_addFree 24 = .ok (.getfield 24, 3) := by decide +kernel
theorem dX4_addFree_27 : decode cX4_addFree 27 = .ok (.iconst 1, 1) := by decide +kernel
theorem dX4_addFree_28 : decode cX4_addFree 28 = .ok (.iadd, 1) := by decide +kernel
theorem dX4_addFree_29 : decode cX4_addFree 29 = .ok (.putfield 24, 3) := by decide +kernel
theorem dX4_addFree_32 : decode cX4_addFree 32 = .ok (.return_, 1) := by decide +kernel
theorem dX4_flip_0 : decode cX4_flip 0 = .ok (.iload_n 1, 1) := by decide +kernel
theorem dX4_flip_1 : decode cX4_flip 1 = .ok (.ifCond .ne 7, 3) := by decide +kernel
theorem dX4_flip_4 : decode cX4_flip 4 = .ok (.iconst 0, 1) := by decide +kernel
theorem dX4_flip_5 : decode cX4_flip 5 = .ok (.goto 8, 3) := by decide +kernel
theorem dX4_flip_8 : decode cX4_flip 8 = .ok (.iload_n 1, 1) := by decide +kernel
theorem dX4_flip_9 : decode cX4_flip 9 = .ok (.iload_n 1, 1) := by decide +kernel
theorem dX4_flip_10 : decode cX4_flip 10 = .ok (.iconst 1, 1) := by decide +kernel
theorem dX4_flip_11 : decode cX4_flip 11 = .ok (.isub, 1) := by decide +kernel
theorem dX4_flip_12 : decode cX4_flip 12 = .ok (.ixor, 1) := by decide +kernel
theorem dX4_flip_13 : decode cX4_flip 13 = .ok (.istore_n 2, 1) := by decide +kernel
theorem dX4_flip_14 : decode cX4_flip 14 = .ok (.iconst 0, 1) := by decide +kernel
theorem dX4_flip_15 : decode cX4_flip 15 = .ok (.istore_n 3, 1) := by decide +kernel
theorem dX4_flip_16 : decode cX4_flip 16 = .ok (.iconst 0, 1) := by decide +kernel
theorem dX4_flip_17 : decode cX4_flip 17 = .ok (.istore 4, 2) := by decide +kernel
theorem dX4_flip_19 : decode cX4_flip 19 = .ok (.iload 4, 2) := by decide +kernel
theorem dX4_flip_21 : decode cX4_flip 21 = .ok (.aload_n 0, 1) := by decide +kernel
theorem dX4_flip_22 : decode cX4_flip 22 = .ok (.getfield 24, 3) := by decide +kernel
theorem dX4_flip_25 : decode cX4_flip 25 = .ok (.if_icmp .ge 115, 3) := by decide +kernel
theorem dX4_flip_28 : decode cX4_flip 28 = .ok (.iload 4, 2) := by decide +kernel
theorem dX4_flip_30 : decode cX4_flip 30 = .ok (.bipush 12, 2) := by decide +kernel
theorem dX4_flip_32 : decode cX4_flip 32 = .ok (.if_icmp .ge 108, 3) := by decide +kernel
theorem dX4_flip_35 : decode cX4_flip 35 = .ok (.iload_n 2, 1) := by decide +kernel
theorem dX4_flip_36 : decode cX4_flip 36 = .ok (.iload 4, 2) := by decide +kernel
theorem dX4_flip_38 : decode cX4_flip 38 = .ok (.ishr, 1) := by decide +kernel
theorem dX4_flip_39 : decode cX4_flip 39 = .ok (.ifCond .eq 101, 3) := by decide +kernel
theorem dX4_flip_42 : decode cX4_flip 42 = .ok (.aload_n 0, 1) := by decide +kernel
theorem dX4_flip_43 : decode cX4_flip 43 = .ok (.getfield 21, 3) := by decide +kernel
theorem dX4_flip_46 : decode cX4_flip 46 = .ok (.iload 4, 2) := by decide +kernel
theorem dX4_flip_48 : decode cX4_flip 48 = .ok (.iaload, 1) := by decide +kernel
theorem dX4_flip_49 : decode cX4_flip 49 = .ok (.istore 5, 2) := by decide +kernel
theorem dX4_flip_51 : decode cX4_flip 51 = .ok (.iload_n 1, 1) := by decide +kernel
theorem dX4_flip_52 : decode cX4_flip 52 = .ok (.iload 4, 2) := by decide +kernel
theorem dX4_flip_54 : decode cX4_flip 54 = .ok (.ishr, 1) := by decide +kernel
theorem dX4_flip_55 : decode cX4_flip 55 = .ok (.iconst 1, 1) := by decide +kernel
theorem dX4_flip_56 : decode cX4_flip 56 = .ok (.iand, 1) := by decide +kernel
theorem dX4_flip_57 : decode cX4_flip 57 = .ok (.ifCond .eq 7, 3) := by decide +kernel
theorem dX4_flip_60 : decode cX4_flip 60 = .ok (.iconst 1, 1) := by decide +kernel
theorem dX4_flip_61 : decode cX4_flip 61 = .ok (.goto 4, 3) := by decide +kernel
theorem dX4_flip_64 : decode cX4_flip 64 = .ok (.iconst 0, 1) := by decide +kernel
theorem dX4_flip_65 : decode cX4_flip 65 = .ok (.istore 6, 2) := by decide +kernel
theorem dX4_flip_67 : decode cX4_flip 67 = .ok (.iload 5, 2) := by decide +kernel
theorem dX4_flip_69 : decode cX4_flip 69 = .ok (.bipush 12, 2) := by decide +kernel
theorem dX4_flip_71 : decode cX4_flip 71 = .ok (.invokestatic 96, 3) := by decide +kernel
theorem dX4_flip_74 : decode cX4_flip 74 = .ok (.ifCond .eq 60, 3) := by decide +kernel
theorem dX4_flip_77 : decode cX4_flip 77 = .ok (.aload_n 0, 1) := by decide +kernel
theorem dX4_flip_78 : decode cX4_flip 78 = .ok (.getfield 38, 3) := by decide +kernel
theorem dX4_flip_81 : decode cX4_flip 81 = .ok (.iload 5, 2) := by decide +kernel
theorem dX4_flip_83 : decode cX4_flip 83 = .ok (.iload 6, 2) := by decide +kernel
theorem dX4_flip_85 : decode cX4_flip 85 = .ok (.ifCond .eq 13, 3) := by decide +kernel
theorem dX4_flip_88 : decode cX4_flip 88 = .ok (.aload_n 0, 1) := by decide +kernel
theorem dX4_flip_89 : decode cX4_flip 89 = .ok (.getfield 15, 3) := by decide +kernel
theorem dX4_flip_92 : decode cX4_flip 92 = .ok (.iload 5, 2) := by decide +kernel
theorem dX4_flip_94 : decode cX4_flip 94 = .ok (.iaload, 1) := by decide +kernel
theorem dX4_flip_95 : decode cX4_flip 95 = .ok (.goto 10, 3) := by decide +kernel
theorem dX4_flip_98 : decode cX4_flip 98 = .ok (.aload_n 0, 1) := by decide +kernel
theorem dX4_flip_99 : decode cX4_flip 99 = .ok (.getfield 9, 3) := by decide +kernel
theorem dX4_flip_102 : decode cX4_flip 102 = .ok (.iload 5, 2) := by decide +kernel
theorem dX4_flip_104 : decode cX4_flip 104 = .ok (.iaload, 1) := by decide +kernel
theorem dX4_flip_105 : decode cX4_flip 105 = .ok (.invokevirtual 92, 3) := by decide +kernel
theorem dX4_flip_108 : decode cX4_flip 108 = .ok (.iload_n 3, 1) := by decide +kernel
theorem dX4_flip_109 : decode cX4_flip 109 = .ok (.iload 6, 2) := by decide +kernel
theorem dX4_flip_111 : decode cX4_flip 111 = .ok (.ifCond .eq 13, 3) := by decide +kernel
theorem dX4_flip_114 : decode cX4_flip 114 = .ok (.aload_n 0, 1) := by decide +kernel
theorem dX4_flip_115 : decode cX4_flip 115 = .ok (.getfield 18, 3) := by decide +kernel
theorem dX4_flip_118 : decode cX4_flip 118 = .ok (.iload 5, 2) := by decide +kernel
theorem dX4_flip_120 : decode cX4_flip 120 = .ok (.iaload, 1) := by decide +kernel
theorem dX4_flip_121 : decode cX4_flip 121 = .ok (.goto 11, 3) := by decide +kernel
theorem dX4_flip_124 : decode cX4_flip 124 = .ok (.aload_n 0, 1) := by decide +kernel
theorem dX4_flip_125 : decode cX4_flip 125 = .ok (.getfield 18, 3) := by decide +kernel
theorem dX4_flip_128 : decode cX4_flip 128 = .ok (.iload 5, 2) := by decide +kernel
theorem dX4_flip_130 : decode cX4_flip 130 = .ok (.iaload, 1) := by decide +kernel
theorem dX4_flip_131 : decode cX4_flip 131 = .ok (.ineg, 1) := by decide +kernel
theorem dX4_flip_132 : decode cX4_flip 132 = .ok (.iadd, 1) := by decide +kernel
theorem dX4_flip_133 : decode cX4_flip 133 = .ok (.istore_n 3, 1) := by decide +kernel
theorem dX4_flip_134 : decode cX4_flip 134 = .ok (.iinc 4 1, 3) := by decide +kernel
theorem dX4_flip_137 : decode cX4_flip 137 = .ok (.goto (-118), 3) := by decide +kernel
theorem dX4_flip_140 : decode cX4_flip 140 = .ok (.iload_n 3, 1) := by decide +kernel
theorem dX4_flip_141 : decode cX4_flip 141 = .ok (.ireturn, 1) := by decide +kernel
theorem dX4_cocksOf_0 : decode cX4_cocksOf 0 = .ok (.iconst 0, 1) := by decide +kernel
theorem dX4_cocksOf_1 : decode cX4_cocksOf 1 = .ok (.istore_n 2, 1) := by decide +kernel
theorem dX4_cocksOf_2 : decode cX4_cocksOf 2 = .ok (.iconst 0, 1) := by decide +kernel
theorem dX4_cocksOf_3 : decode cX4_cocksOf 3 = .ok (.istore_n 3, 1) := by decide +kernel
theorem dX4_cocksOf_4 : decode cX4_cocksOf 4 = .ok (.iload_n 3, 1) := by decide +kernel
theorem dX4_cocksOf_5 : decode cX4_cocksOf 5 = .ok (.aload_n 0, 1) := by decide +kernel
theorem dX4_cocksOf_6 : decode cX4_cocksOf 6 = .ok (.getfield 24, 3) := by decide +kernel
theorem dX4_cocksOf_9 : decode cX4_cocksOf 9 = .ok (.if_icmp .ge 34, 3) := by decide +kernel
theorem dX4_cocksOf_12 : decode cX4_cocksOf 12 = .ok (.iload_n 3, 1) := by decide +kernel
theorem dX4_cocksOf_13 : decode cX4_cocksOf 13 = .ok (.bipush 12, 2) := by decide +kernel
theorem dX4_cocksOf_15 : decode cX4_cocksOf 15 = .ok (.if_icmp .ge 28, 3) := by decide +kernel
theorem dX4_cocksOf_18 : decode cX4_cocksOf 18 = .ok (.iload_n 1, 1) := by decide +kernel
theorem dX4_cocksOf_19 : decode cX4_cocksOf 19 = .ok (.iload_n 3, 1) := by decide +kernel
theorem dX4_cocksOf_20 : decode cX4_cocksOf 20 = .ok (.ishr, 1) := by decide +kernel
theorem dX4_cocksOf_21 : decode cX4_cocksOf 21 = .ok (.iconst 1, 1) := by decide +kernel
theorem dX4_cocksOf_22 : decode cX4_cocksOf 22 = .ok (.iand, 1) := by decide +kernel
theorem dX4_cocksOf_23 : decode cX4_cocksOf 23 = .ok (.ifCond .eq 14, 3) := by decide +kernel
theorem dX4_cocksOf_26 : decode cX4_cocksOf 26 = .ok (.iload_n 2, 1) := by decide +kernel
theorem dX4_cocksOf_27 : decode cX4_cocksOf 27 = .ok (.iconst 1, 1) := by decide +kernel
theorem dX4_cocksOf_28 : decode cX4_cocksOf 28 = .ok (.aload_n 0, 1) := by decide +kernel
theorem dX4_cocksOf_29 : decode cX4_cocksOf 29 = .ok (.getfield 21, 3) := by decide +kernel
theorem dX4_cocksOf_32 : decode cX4_cocksOf 32 = .ok (.iload_n 3, 1) := by decide +kernel
theorem dX4_cocksOf_33 : decode cX4_cocksOf 33 = .ok (.iaload, 1) := by decide +kernel
theorem dX4_cocksOf_34 : decode cX4_cocksOf 34 = .ok (.ishl, 1) := by decide +kernel
theorem dX4_cocksOf_35 : decode cX4_cocksOf 35 = .ok (.ior, 1) := by decide +kernel
theorem dX4_cocksOf_36 : decode cX4_cocksOf 36 = .ok (.istore_n 2, 1) := by decide +kernel
theorem dX4_cocksOf_37 : decode cX4_cocksOf 37 = .ok (.iinc 3 1, 3) := by decide +kernel
theorem dX4_cocksOf_40 : decode cX4_cocksOf 40 = .ok (.goto (-36), 3) := by decide +kernel
theorem dX4_cocksOf_43 : decode cX4_cocksOf 43 = .ok (.iload_n 2, 1) := by decide +kernel
theorem dX4_cocksOf_44 : decode cX4_cocksOf 44 = .ok (.ireturn, 1) := by decide +kernel
theorem dX5_init_0 : decode cX5_init 0 = .ok (.aload_n 0, 1) := by decide +kernel
theorem dX5_init_1 : decode cX5_init 1 = .ok (.invokespecial 3, 3) := by decide +kernel
theorem dX5_init_4 : decode cX5_init 4 = .ok (.aload_n 0, 1) := by decide +kernel
theorem dX5_init_5 : decode cX5_init 5 = .ok (.sipush 400, 3) := by decide +kernel
theorem dX5_init_8 : decode cX5_init 8 = .ok (.newarray .int, 2) := by decide +kernel
theorem dX5_init_10 : decode cX5_init 10 = .ok (.putfield 9, 3) := by decide +kernel
theorem dX5_init_13 : decode cX5_init 13 = .ok (.aload_n 0, 1) := by decide +kernel
theorem dX5_init_14 : decode cX5_init 14 = .ok (.iconst 0, 1) := by decide +kernel
theorem dX5_init_15 : decode cX5_init 15 = .ok (.putfield 15, 3) := by decide +kernel
theorem dX5_init_18 : decode cX5_init 18 = .ok (.return_, 1) := by decide +kernel
theorem dX5_append_0 : decode cX5_append 0 = .ok (.bipush 24, 2) := by decide +kernel
theorem dX5_append_2 : decode cX5_append 2 = .ok (.istore_n 2, 1) := by decide +kernel
theorem dX5_append_3 : decode cX5_append 3 = .ok (.iload_n 2, 1) := by decide +kernel
theorem dX5_append_4 : decode cX5_append 4 = .ok (.ifCond .lt 45, 3) := by decide +kernel
theorem dX5_append_7 : decode cX5_append 7 = .ok (.aload_n 0, 1) := by decide +kernel
theorem dX5_append_8 : decode cX5_append 8 = .ok (.getfield 15, 3) := by decide +kernel
theorem dX5_append_11 : decode cX5_append 11 = .ok (.sipush 400, 3) := by decide +kernel
theorem dX5_append_14 : decode cX5_append 14 = .ok (.if_icmp .ge 29, 3) := by decide +kernel
theorem dX5_append_17 : decode cX5_append 17 = .ok (.aload_n 0, 1) := by decide +kernel
theorem dX5_append_18 : decode cX5_append 18 = .ok (.getfield 9, 3) := by decide +kernel
theorem dX5_append_21 : decode cX5_append 21 = .ok (.aload_n 0, 1) := by decide +kernel
theorem dX5_append_22 : decode cX5_append 22 = .ok (.getfield 15, 3) := by decide +kernel
theorem dX5_append_25 : decode cX5_append 25 = .ok (.iload_n 1, 1) := by decide +kernel
theorem dX5_append_26 : decode cX5_append 26 = .ok (.iload_n 2, 1) := by decide +kernel
theorem dX5_append_27 : decode cX5_append 27 = .ok (.ishr, 1) := by decide +kernel
theorem dX5_append_28 : decode cX5_append 28 = .ok (.sipush 255, 3) := by decide +kernel
theorem dX5_append_31 : decode cX5_append 31 = .ok (.iand, 1) := by decide +kernel
theorem dX5_append_32 : decode cX5_append 32 = .ok (.iastore, 1) := by decide +kernel
theorem dX5_append_33 : decode cX5_append 33 = .ok (.aload_n 0, 1) := by decide +kernel
theorem dX5_append_34 : decode cX5_append 34 = .ok (.dup, 1) := by decide +kernel
theorem dX5_append_35 : decode cX5_append 35 = .ok (.getfield 15, 3) := by decide +kernel
theorem dX5_append_38 : decode cX5_append 38 = .ok (.iconst 1, 1) := by decide +kernel
theorem dX5_append_39 : decode cX5_append 39 = .ok (.iadd, 1) := by decide +kernel
theorem dX5_append_40 : decode cX5_append 40 = .ok (.putfield 15, 3) := by decide +kernel
theorem dX5_append_43 : decode cX5_append 43 = .ok (.iinc 2 (-8), 3) := by decide +kernel
theorem dX5_append_46 : decode cX5_append 46 = .ok (.goto (-43), 3) := by decide +kernel
theorem dX5_append_49 : decode cX5_append 49 = .ok (.return_, 1) := by decide +kernel
theorem dX5_at_0 : decode cX5_at 0 = .ok (.iload_n 1, 1) := by decide +kernel
theorem dX5_at_1 : decode cX5_at 1 = .ok (.ifCond .lt 27, 3) := by decide +kernel
theorem dX5_at_4 : decode cX5_at 4 = .ok (.iload_n 1, 1) := by decide +kernel
theorem dX5_at_5 : decode cX5_at 5 = .ok (.aload_n 0, 1) := by decide +kernel
theorem dX5_at_6 : decode cX5_at 6 = .ok (.getfield 15, 3) := by decide +kernel
theorem dX5_at_9 : decode cX5_at 9 = .ok (.if_icmp .ge 19, 3) := by decide +kernel
theorem dX5_at_12 : decode cX5_at 12 = .ok (.iload_n 1, 1) := by decide +kernel
theorem dX5_at_13 : decode cX5_at 13 = .ok (.sipush 400, 3) := by decide +kernel
theorem dX5_at_16 : decode cX5_at 16 = .ok (.if_icmp .ge 12, 3) := by decide +kernel
theorem dX5_at_19 : decode cX5_at 19 = .ok (.aload_n 0, 1) := by decide +kernel
theorem dX5_at_20 : decode cX5_at 20 = .ok (.getfield 9, 3) := by decide +kernel
theorem dX5_at_23 : decode cX5_at 23 = .ok (.iload_n 1, 1) := by decide +kernel
theorem dX5_at_24 : decode cX5_at 24 = .ok (.iaload, 1) := by decide +kernel
theorem dX5_at_25 : decode cX5_at 25 = .ok (.goto 4, 3) := by decide +kernel
theorem dX5_at_28 : decode cX5_at 28 = .ok (.iconst 0, 1) := by decide +kernel
theorem dX5_at_29 : decode cX5_at 29 = .ok (.ireturn, 1) := by decide +kernel
theorem dX6_init_0 : decode cX6_init 0 = .ok (.aload_n 0, 1) := by decide +kernel
theorem dX6_init_1 : decode cX6_init 1 = .ok (.invokespecial 3, 3) := by decide +kernel
theorem dX6_init_4 : decode cX6_init 4 = .ok (.aload_n 0, 1) := by decide +kernel
theorem dX6_init_5 : decode cX6_init 5 = .ok (.sipush 401, 3) := by decide +kernel
theorem dX6_init_8 : decode cX6_init 8 = .ok (.newarray .int, 2) := by decide +kernel
theorem dX6_init_10 : decode cX6_init 10 = .ok (.putfield 9, 3) := by decide +kernel
theorem dX6_init_13 : decode cX6_init 13 = .ok (.aload_n 0, 1) := by decide +kernel
theorem dX6_init_14 : decode cX6_init 14 = .ok (.sipush 401, 3) := by decide +kernel
theorem dX6_init_17 : decode cX6_init 17 = .ok (.newarray .int, 2) := by decide +kernel
theorem dX6_init_19 : decode cX6_init 19 = .ok (.putfield 15, 3) := by decide +kernel
theorem dX6_init_22 : decode cX6_init 22 = .ok (.aload_n 0, 1) := by decide +kernel
theorem dX6_init_23 : decode cX6_init 23 = .ok (.sipush 401, 3) := by decide +kernel
theorem dX6_init_26 : decode cX6_init 26 = .ok (.newarray .int, 2) := by decide +kernel
theorem dX6_init_28 : decode cX6_init 28 = .ok (.putfield 18, 3) := by decide +kernel
theorem dX6_init_31 : decode cX6_init 31 = .ok (.aload_n 0, 1) := by decide +kernel
theorem dX6_init_32 : decode cX6_init 32 = .ok (.iconst 0, 1) := by decide +kernel
theorem dX6_init_33 : decode cX6_init 33 = .ok (.putfield 21, 3) := by decide +kernel
theorem dX6_init_36 : decode cX6_init 36 = .ok (.aload_n 0, 1) := by decide +kernel
theorem dX6_init_37 : decode cX6_init 37 = .ok (.iconst 0, 1) := by decide +kernel
theorem dX6_init_38 : decode cX6_init 38 = .ok (.putfield 25, 3) := by decide +kernel
theorem dX6_init_41 : decode cX6_init 41 = .ok (.aload_n 0, 1) := by decide +kernel
theorem dX6_init_42 : decode cX6_init 42 = .ok (.iconst 0, 1) := by decide +kernel
theorem dX6_init_43 : decode cX6_init 43 = .ok (.putfield 28, 3) := by decide +kernel
theorem dX6_init_46 : decode cX6_init 46 = .ok (.return_, 1) := by decide +kernel
theorem dX6_cut_0 : decode cX6_cut 0 = .ok (.aload_n 0, 1) := by decide +kernel
theorem dX6_cut_1 : decode cX6_cut 1 = .ok (.iconst 0, 1) := by decide +kernel
theorem dX6_cut_2 : decode cX6_cut 2 = .ok (.putfield 21, 3) := by decide +kernel
theorem dX6_cut_5 : decode cX6_cut 5 = .ok (.aload_n 0, 1) := by decide +kernel
theorem dX6_cut_6 : decode cX6_cut 6 = .ok (.iconst 0, 1) := by decide +kernel
theorem dX6_cut_7 : decode cX6_cut 7 = .ok (.putfield 25, 3) := by decide +kernel
theorem dX6_cut_10 : decode cX6_cut 10 = .ok (.aload_n 0, 1) := by decide +kernel
theorem dX6_cut_11 : decode cX6_cut 11 = .ok (.iconst 0, 1) := by decide +kernel
theorem dX6_cut_12 : decode cX6_cut 12 = .ok (.putfield 28, 3) := by decide +kernel
theorem dX6_cut_15 : decode cX6_cut 15 = .ok (.iconst 0, 1) := by decide +kernel
theorem dX6_cut_16 : decode cX6_cut 16 = .ok (.istore_n 2, 1) := by decide +kernel
theorem dX6_cut_17 : decode cX6_cut 17 = .ok (.iconst 0, 1) := by decide +kernel
theorem dX6_cut_18 : decode cX6_cut 18 = .ok (.istore_n 3, 1) := by decide +kernel
theorem dX6_cut_19 : decode cX6_cut 19 = .ok (.iload_n 3, 1) := by decide +kernel
theorem dX6_cut_20 : decode cX6_cut 20 = .ok (.sipush 400, 3) := by decide +kernel
theorem dX6_cut_23 : decode cX6_cut 23 = .ok (.if_icmp .ge 24, 3) := by decide +kernel
theorem dX6_cut_26 : decode cX6_cut 26 = .ok (.iload_n 2, 1) := by decide +kernel
theorem dX6_cut_27 : decode cX6_cut 27 = .ok (.aload_n 1, 1) := by decide +kernel
theorem dX6_cut_28 : decode cX6_cut 28 = .ok (.getfield 31, 3) := by decide +kernel
theorem dX6_cut_31 : decode cX6_cut 31 = .ok (.if_icmp .ge 16, 3) := by decide +kernel
theorem dX6_cut_34 : decode cX6_cut 34 = .ok (.aload_n 0, 1) := by decide +kernel
theorem dX6_cut_35 : decode cX6_cut 35 = .ok (.aload_n 1, 1) := by decide +kernel
theorem dX6_cut_36 : decode cX6_cut 36 = .ok (.iload_n 2, 1) := by decide +kernel
theorem dX6_cut_37 : decode cX6_cut 37 = .ok (.invokevirtual 36, 3) := by decide +kernel
theorem dX6_cut_40 : decode cX6_cut 40 = .ok (.istore_n 2, 1) := by decide +kernel
theorem dX6_cut_41 : decode cX6_cut 41 = .ok (.iinc 3 1, 3) := by decide +kernel
theorem dX6_cut_44 : decode cX6_cut 44 = .ok (.goto (-25), 3) := by decide +kernel
theorem dX6_cut_47 : decode cX6_cut 47 = .ok (.aload_n 0, 1) := by decide +kernel
theorem dX6_cut_48 : decode cX6_cut 48 = .ok (.iconst 1, 1) := by decide +kernel
theorem dX6_cut_49 : decode cX6_cut 49 = .ok (.aload_n 1, 1) := by decide +kernel
theorem dX6_cut_50 : decode cX6_cut 50 = .ok (.getfield 31, 3) := by decide +kernel
theorem dX6_cut_53 : decode cX6_cut 53 = .ok (.iconst 0, 1) := by decide +kernel
theorem dX6_cut_54 : decode cX6_cut 54 = .ok (.invokevirtual 40, 3) := by decide +kernel
theorem dX6_cut_57 : decode cX6_cut 57 = .ok (.return_, 1) := by decide +kernel
theorem dX6_kind_0 : decode cX6_kind 0 = .ok (.aload_n 0, 1) := by decide +kernel
theorem dX6_kind_1 : decode cX6_kind 1 = .ok (.getfield 25, 3) := by decide +kernel
theorem dX6_kind_4 : decode cX6_kind 4 = .ok (.ifCond .lt 36, 3) := by decide +kernel
theorem dX6_kind_7 : decode cX6_kind 7 = .ok (.aload_n 0, 1) := by decide +kernel
theorem dX6_kind_8 : decode cX6_kind 8 = .ok (.getfield 25, 3) := by decide +kernel
theorem dX6_kind_11 : decode cX6_kind 11 = .ok (.aload_n 0, 1) := by decide +kernel
theorem dX6_kind_12 : decode cX6_kind 12 = .ok (.getfield 21, 3) := by decide +kernel
theorem dX6_kind_15 : decode cX6_kind 15 = .ok (.if_icmp .ge 25, 3) := by decide +kernel
theorem dX6_kind_18 : decode cX6_kind 18 = .ok (.aload_n 0, 1) := by decide +kernel
theorem dX6_kind_19 : decode cX6_kind 19 = .ok (.getfield 25, 3) := by decide +kernel
theorem dX6_kind_22 : decode cX6_kind 22 = .ok (.sipush 400, 3) := by decide +kernel
theorem dX6_kind_25 : decode cX6_kind 25 = .ok (.if_icmp .gt 15, 3) := by decide +kernel
theorem dX6_kind_28 : decode cX6_kind 28 = .ok (.aload_n 0, 1) := by decide +kernel
theorem dX6_kind_29 : decode cX6_kind 29 = .ok (.getfield 9, 3) := by decide +kernel
theorem dX6_kind_32 : decode cX6_kind 32 = .ok (.aload_n 0, 1) := by decide +kernel
theorem dX6_kind_33 : decode cX6_kind 33 = .ok (.getfield 25, 3) := by decide +kernel
theorem dX6_kind_36 : decode cX6_kind 36 = .ok (.iaload, 1) := by decide +kernel
theorem dX6_kind_37 : decode cX6_kind 37 = .ok (.goto 4, 3) := by decide +kernel
theorem dX6_kind_40 : decode cX6_kind 40 = .ok (.iconst 1, 1) := by decide +kernel
theorem dX6_kind_41 : decode cX6_kind 41 = .ok (.ireturn, 1) := by decide +kernel
theorem dX6_value_0 : decode cX6_value 0 = .ok (.aload_n 0, 1) := by decide +kernel
theorem dX6_value_1 : decode cX6_value 1 = .ok (.getfield 25, 3) := by decide +kernel
theorem dX6_value_4 : decode cX6_value 4 = .ok (.ifCond .lt 36, 3) := by decide +kernel
theorem dX6_value_7 : decode cX6_value 7 = .ok (.aload_n 0, 1) := by decide +kernel
theorem dX6_value_8 : decode cX6_value 8 = .ok (.getfield 25, 3) := by decide +kernel
theorem dX6_value_11 : decode cX6_value 11 = .ok (.aload_n 0, 1) := by decide +kernel
theorem dX6_value_12 : decode cX6_value 12 = .ok (.getfield 21, 3) := by decide +kernel
theorem dX6_value_15 : decode cX6_value 15 = .ok (.if_icmp .ge 25, 3) := by decide +kernel
theorem dX6_value_18 : decode cX6_value 18 = .ok (.aload_n 0, 1) := by decide +kernel
theorem dX6_value_19 : decode cX6_value 19 = .ok (.getfield 25, 3) := by decide +kernel
theorem dX6_value_22 : decode cX6_value 22 = .ok (.sipush 400, 3) := by decide +kernel
theorem dX6_value_25 : decode cX6_value 25 = .ok (.if_icmp .gt 15, 3) := by decide +kernel
theorem dX6_value_28 : decode cX6_value 28 = .ok (.aload_n 0, 1) := by decide +kernel
theorem dX6_value_29 : decode cX6_value 29 = .ok (.getfield 18, 3) := by decide +kernel
theorem dX6_value_32 : decode cX6_value 32 = .ok (.aload_n 0, 1) := by decide +kernel
theorem dX6_value_33 : decode cX6_value 33 = .ok (.getfield 25, 3) := by decide +kernel
theorem dX6_value_36 : decode cX6_value 36 = .ok (.iaload, 1) := by decide +kernel
theorem dX6_value_37 : decode cX6_value 37 = .ok (.goto 4, 3) := by decide +kernel
theorem dX6_value_40 : decode cX6_value 40 = .ok (.iconst 0, 1) := by decide +kernel
theorem dX6_value_41 : decode cX6_value 41 = .ok (.ireturn, 1) := by decide +kernel
theorem dX6_skip_0 : decode cX6_skip 0 = .ok (.aload_n 0, 1) := by decide +kernel
theorem dX6_skip_1 : decode cX6_skip 1 = .ok (.dup, 1) := by decide +kernel
theorem dX6_skip_2 : decode cX6_skip 2 = .ok (.getfield 25, 3) := by decide +kernel
theorem dX6_skip_5 : decode cX6_skip 5 = .ok (.iconst 1, 1) := by decide +kernel
theorem dX6_skip_6 : decode cX6_skip 6 = .ok (.iadd, 1) := by decide +kernel
theorem dX6_skip_7 : decode cX6_skip 7 = .ok (.putfield 25, 3) := by decide +kernel
theorem dX6_skip_10 : decode cX6_skip 10 = .ok (.return_, 1) := by decide +kernel
theorem dX6_fails_0 : decode cX6_fails 0 = .ok (.aload_n 0, 1) := by decide +kernel
theorem dX6_fails_1 : decode cX6_fails 1 = .ok (.getfield 25, 3) := by decide +kernel
theorem dX6_fails_4 : decode cX6_fails 4 = .ok (.ifCond .lt 36, 3) := by decide +kernel
theorem dX6_fails_7 : decode cX6_fails 7 = .ok (.aload_n 0, 1) := by decide +kernel
theorem dX6_fails_8 : decode cX6_fails 8 = .ok (.getfield 25, 3) := by decide +kernel
theorem dX6_fails_11 : decode cX6_fails 11 = .ok (.aload_n 0, 1) := by decide +kernel
theorem dX6_fails_12 : decode cX6_fails 12 = .ok (.getfield 21, 3) := by decide +kernel
theorem dX6_fails_15 : decode cX6_fails 15 = .ok (.if_icmp .ge 25, 3) := by decide +kernel
theorem dX6_fails_18 : decode cX6_fails 18 = .ok (.aload_n 0, 1) := by decide +kernel
theorem dX6_fails_19 : decode cX6_fails 19 = .ok (.getfield 25, 3) := by decide +kernel
theorem dX6_fails_22 : decode cX6_fails 22 = .ok (.sipush 400, 3) := by decide +kernel
theorem dX6_fails_25 : decode cX6_fails 25 = .ok (.if_icmp .gt 15, 3) := by decide +kernel
theorem dX6_fails_28 : decode cX6_fails 28 = .ok (.aload_n 0, 1) := by decide +kernel
theorem dX6_fails_29 : decode cX6_fails 29 = .ok (.getfield 15, 3) := by decide +kernel
theorem dX6_fails_32 : decode cX6_fails 32 = .ok (.aload_n 0, 1) := by decide +kernel
theorem dX6_fails_33 : decode cX6_fails 33 = .ok (.getfield 25, 3) := by decide +kernel
theorem dX6_fails_36 : decode cX6_fails 36 = .ok (.iaload, 1) := by decide +kernel
theorem dX6_fails_37 : decode cX6_fails 37 = .ok (.goto 4, 3) := by decide +kernel
theorem dX6_fails_40 : decode cX6_fails 40 = .ok (.iconst 0, 1) := by decide +kernel
theorem dX6_fails_41 : decode cX6_fails 41 = .ok (.istore_n 2, 1) := by decide +kernel
theorem dX6_fails_42 : decode cX6_fails 42 = .ok (.aload_n 0, 1) := by decide +kernel
theorem dX6_fails_43 : decode cX6_fails 43 = .ok (.iconst 1, 1) := by decide +kernel
theorem dX6_fails_44 : decode cX6_fails 44 = .ok (.bipush 8, 2) := by decide +kernel
theorem dX6_fails_46 : decode cX6_fails 46 = .ok (.iload_n 2, 1) := by decide +kernel
theorem dX6_fails_47 : decode cX6_fails 47 = .ok (.imul, 1) := by decide +kernel
theorem dX6_fails_48 : decode cX6_fails 48 = .ok (.iadd, 1) := by decide +kernel
theorem dX6_fails_49 : decode cX6_fails 49 = .ok (.iload_n 1, 1) := by decide +kernel
theorem dX6_fails_50 : decode cX6_fails 50 = .ok (.iadd, 1) := by decide +kernel
theorem dX6_fails_51 : decode cX6_fails 51 = .ok (.putfield 28, 3) := by decide +kernel
theorem dX6_fails_54 : decode cX6_fails 54 = .ok (.iconst 0, 1) := by decide +kernel
theorem dX6_fails_55 : decode cX6_fails 55 = .ok (.ireturn, 1) := by decide +kernel
theorem dX6_cutOne_0 : decode cX6_cutOne 0 = .ok (.aload_n 1, 1) := by decide +kernel
theorem dX6_cutOne_1 : decode cX6_cutOne 1 = .ok (.iload_n 2, 1) := by decide +kernel
theorem dX6_cutOne_2 : decode cX6_cutOne 2 = .ok (.invokevirtual 44, 3) := by decide +kernel
theorem dX6_cutOne_5 : decode cX6_cutOne 5 = .ok (.istore_n 3, 1) := by decide +kernel
theorem dX6_cutOne_6 : decode cX6_cutOne 6 = .ok (.iload_n 3, 1) := by decide +kernel
theorem dX6_cutOne_7 : decode cX6_cutOne 7 = .ok (.bipush 32, 2) := by decide +kernel
theorem dX6_cutOne_9 : decode cX6_cutOne 9 = .ok (.if_icmp .ne 7, 3) := by decide +kernel
theorem dX6_cutOne_12 : decode cX6_cutOne 12 = .ok (.iload_n 2, 1) := by decide +kernel
theorem dX6_cutOne_13 : decode cX6_cutOne 13 = .ok (.iconst 1, 1) := by decide +kernel
theorem dX6_cutOne_14 : decode cX6_cutOne 14 = .ok (.iadd, 1) := by decide +kernel
theorem dX6_cutOne_15 : decode cX6_cutOne 15 = .ok (.ireturn, 1) := by decide +kernel
theorem dX6_cutOne_16 : decode cX6_cutOne 16 = .ok (.iload_n 3, 1) := by decide +kernel
theorem dX6_cutOne_17 : decode cX6_cutOne 17 = .ok (.invokestatic 48, 3) := by decide +kernel
theorem dX6_cutOne_20 : decode cX6_cutOne 20 = .ok (.ifCond .eq 10, 3) := by decide +kernel
theorem dX6_cutOne_23 : decode cX6_cutOne 23 = .ok (.aload_n 0, 1) := by decide +kernel
theorem dX6_cutOne_24 : decode cX6_cutOne 24 = .ok (.aload_n 1, 1) := by decide +kernel
theorem dX6_cutOne_25 : decode cX6_cutOne 25 = .ok (.iload_n 2, 1) := by decide +kernel
theorem dX6_cutOne_26 : decode cX6_cutOne 26 = .ok (.invokevirtual 52, 3) := by decide +kernel
theorem dX6_cutOne_29 : decode cX6_cutOne 29 = .ok (.ireturn, 1) := by decide +kernel
theorem dX6_cutOne_30 : decode cX6_cutOne 30 = .ok (.iload_n 3, 1) := by decide +kernel
theorem dX6_cutOne_31 : decode cX6_cutOne 31 = .ok (.invokestatic 55, 3) := by decide +kernel
theorem dX6_cutOne_34 : decode cX6_cutOne 34 = .ok (.ifCond .eq 12, 3) := by decide +kernel
theorem dX6_cutOne_37 : decode cX6_cutOne 37 = .ok (.aload_n 0, 1) := by decide +kernel
theorem dX6_cutOne_38 : decode cX6_cutOne 38 = .ok (.aload_n 1, 1) := by decide +kernel
theorem dX6_cutOne_39 : decode cX6_cutOne 39 = .ok (.iload_n 2, 1) := by decide +kernel
theorem dX6_cutOne_40 : decode cX6_cutOne 40 = .ok (.invokevirtual 58, 3) := by decide +kernel
theorem dX6_cutOne_43 : decode cX6_cutOne 43 = .ok (.goto 9, 3) := by decide +kernel
theorem dX6_cutOne_46 : decode cX6_cutOne 46 = .ok (.aload_n 0, 1) := by decide +kernel
theorem dX6_cutOne_47 : decode cX6_cutOne 47 = .ok (.aload_n 1, 1) := by decide +kernel
theorem dX6_cutOne_48 : decode cX6_cutOne 48 = .ok (.iload_n 2, 1) := by decide +kernel
theorem dX6_cutOne_49 : decode cX6_cutOne 49 = .ok (.invokevirtual 61, 3) := by decide +kernel
theorem dX6_cutOne_52 : decode cX6_cutOne 52 = .ok (.ireturn, 1) := by decide +kernel
theorem dX6_cutNumber_0 : decode cX6_cutNumber 0 = .ok (.iload_n 2, 1) := by decide +kernel
theorem dX6_cutNumber_1 : decode cX6_cutNumber 1 = .ok (.istore_n 3, 1) := by decide +kernel
theorem dX6_cutNumber_2 : decode cX6_cutNumber 2 = .ok (.iconst 0, 1) := by decide +kernel
theorem dX6_cutNumber_3 : decode cX6_cutNumber 3 = .ok (.istore 4, 2) := by decide +kernel
theorem dX6_cutNumber_5 : decode cX6_cutNumber 5 = .ok (.iconst 0, 1) := by decide +kernel
theorem dX6_cutNumber_6 : decode cX6_cutNumber 6 = .ok (.istore 5, 2) := by decide +kernel
theorem dX6_cutNumber_8 : decode cX6_cutNumber 8 = .ok (.iload 5, 2) := by decide +kernel
theorem dX6_cutNumber_10 : decode cX6_cutNumber 10 = .ok (.sipush 400, 3) := by decide +kernel
theorem dX6_cutNumber_13 : decode cX6_cutNumber 13 = .ok (.if_icmp .ge 50, 3) := by decide +kernel
theorem dX6_cutNumber_16 : decode cX6_cutNumber 16 = .ok (.aload_n 1, 1) := by decide +kernel
theorem dX6_cutNumber_17 : decode cX6_cutNumber 17 = .ok (.iload_n 3, 1) := by decide +kernel
theorem dX6_cutNumber_18 : decode cX6_cutNumber 18 = .ok (.invokevirtual 44, 3) := by decide +kernel
theorem dX6_cutNumber_21 : decode cX6_cutNumber 21 = .ok (.invokestatic 48, 3) := by decide +kernel
theorem dX6_cutNumber_24 : decode cX6_cutNumber 24 = .ok (.ifCond .eq 39, 3) := by decide +kernel
theorem dX6_cutNumber_27 : decode cX6_cutNumber 27 = .ok (.iload_n 3, 1) := by decide +kernel
theorem dX6_cutNumber_28 : decode cX6_cutNumber 28 = .ok (.iload_n 2, 1) := by decide +kernel
theorem dX6_cutNumber_29 : decode cX6_cutNumber 29 = .ok (.isub, 1) := by decide +kernel
theorem dX6_cutNumber_30 : decode cX6_cutNumber 30 = .ok (.iconst 5, 1) := by decide +kernel
theorem dX6_cutNumber_31 : decode cX6_cutNumber 31 = .ok (.if_icmp .ge 20, 3) := by decide +kernel
theorem dX6_cutNumber_34 : decode cX6_cutNumber 34 = .ok (.iload 4, 2) := by decide +kernel
theorem dX6_cutNumber_36 : decode cX6_cutNumber 36 = .ok (.bipush 10, 2) := by decide +kernel
theorem dX6_cutNumber_38 : decode cX6_cutNumber 38 = .ok (.imul, 1) := by decide +kernel
theorem dX6_cutNumber_39 : decode cX6_cutNumber 39 = .ok (.aload_n 1, 1) := by decide +kernel
theorem dX6_cutNumber_40 : decode cX6_cutNumber 40 = .ok (.iload_n 3, 1) := by decide +kernel
theorem dX6_cutNumber_41 : decode cX6_cutNumber 41 = .ok (.invokevirtual 44, 3) := by decide +kernel
theorem dX6_cutNumber_44 : decode cX6_cutNumber 44 = .ok (.iadd, 1) := by decide +kernel
theorem dX6_cutNumber_45 : decode cX6_cutNumber 45 = .ok (.bipush 48, 2) := by decide +kernel
theorem dX6_cutNumber_47 : decode cX6_cutNumber 47 = .ok (.isub, 1) := by decide +kernel
theorem dX6_cutNumber_48 : decode cX6_cutNumber 48 = .ok (.goto 4, 3) := by decide +kernel
theorem dX6_cutNumber_51 : decode cX6_cutNumber 51 = .ok (.iconst (-1), 1) := by decide +kernel
theorem dX6_cutNumber_52 : decode cX6_cutNumber 52 = .ok (.istore 4, 2) := by decide +kernel
theorem dX6_cutNumber_54 : decode cX6_cutNumber 54 = .ok (.iinc 3 1, 3) := by decide +kernel
theorem dX6_cutNumber_57 : decode cX6_cutNumber 57 = .ok (.iinc 5 1, 3) := by decide +kernel
theorem dX6_cutNumber_60 : decode cX6_cutNumber 60 = .ok (.goto (-52), 3) := by decide +kernel
theorem dX6_cutNumber_63 : decode cX6_cutNumber 63 = .ok (.aload_n 0, 1) := by decide +kernel
theorem dX6_cutNumber_64 : decode cX6_cutNumber 64 = .ok (.iconst 3, 1) := by decide +kernel
theorem dX6_cutNumber_65 : decode cX6_cutNumber 65 = .ok (.iload_n 2, 1) := by decide +kernel
theorem dX6_cutNumber_66 : decode cX6_cutNumber 66 = .ok (.iload 4, 2) := by decide +kernel
theorem dX6_cutNumber_68 : decode cX6_cutNumber 68 = .ok (.invokevirtual 40, 3) := by decide +kernel
theorem dX6_cutNumber_71 : decode cX6_cutNumber 71 = .ok (.iload_n 3, 1) := by decide +kernel
theorem dX6_cutNumber_72 : decode cX6_cutNumber 72 = .ok (.ireturn, 1) := by decide +kernel
theorem dX6_cutWord_0 : decode cX6_cutWord 0 = .ok (.iload_n 2, 1) := by decide +kernel
theorem dX6_cutWord_1 : decode cX6_cutWord 1 = .ok (.istore_n 3, 1) := by decide +kernel
theorem dX6_cutWord_2 : decode cX6_cutWord 2 = .ok (.iconst 0, 1) := by decide +kernel
theorem dX6_cutWord_3 : decode cX6_cutWord 3 = .ok (.istore 4, 2) := by decide +kernel
theorem dX6_cutWord_5 : decode cX6_cutWord 5 = .ok (.iload 4, 2) := by decide +kernel
theorem dX6_cutWord_7 : decode cX6_cutWord 7 = .ok (.sipush 400, 3) := by decide +kernel
theorem dX6_cutWord_10 : decode cX6_cutWord 10 = .ok (.if_icmp .ge 23, 3) := by decide +kernel
theorem dX6_cutWord_13 : decode cX6_cutWord 13 = .ok (.aload_n 1, 1) := by decide +kernel
theorem dX6_cutWord_14 : decode cX6_cutWord 14 = .ok (.iload_n 3, 1) := by decide +kernel
theorem dX6_cutWord_15 : decode cX6_cutWord 15 = .ok (.invokevirtual 44, 3) := by decide +kernel
theorem dX6_cutWord_18 : decode cX6_cutWord 18 = .ok (.invokestatic 55, 3) := by decide +kernel
theorem dX6_cutWord_21 : decode cX6_cutWord 21 = .ok (.ifCond .eq 12, 3) := by decide +kernel
theorem dX6_cutWord_24 : decode cX6_cutWord 24 = .ok (.iinc 3 1, 3) := by decide +kernel
theorem dX6_cutWord_27 : decode cX6_cutWord 27 = .ok (.iinc 4 1, 3) := by decide +kernel
theorem dX6_cutWord_30 : decode cX6_cutWord 30 = .ok (.goto (-25), 3) := by decide +kernel
theorem dX6_cutWord_33 : decode cX6_cutWord 33 = .ok (.aload_n 0, 1) := by decide +kernel
theorem dX6_cutWord_34 : decode cX6_cutWord 34 = .ok (.aload_n 1, 1) := by decide +kernel
theorem dX6_cutWord_35 : decode cX6_cutWord 35 = .ok (.iload_n 2, 1) := by decide +kernel
theorem dX6_cutWord_36 : decode cX6_cutWord 36 = .ok (.iload_n 3, 1) := by decide +kernel
theorem dX6_cutWord_37 : decode cX6_cutWord 37 = .ok (.invokestatic 64, 3) := by decide +kernel
theorem dX6_cutWord_40 : decode cX6_cutWord 40 = .ok (.iload_n 2, 1) := by decide +kernel
theorem dX6_cutWord_41 : decode cX6_cutWord 41 = .ok (.iconst 0, 1) := by decide +kernel
theorem dX6_cutWord_42 : decode cX6_cutWord 42 = .ok (.invokevirtual 40, 3) := by decide +kernel
theorem dX6_cutWord_45 : decode cX6_cutWord 45 = .ok (.iload_n 3, 1) := by decide +kernel
theorem dX6_cutWord_46 : decode cX6_cutWord 46 = .ok (.ireturn, 1) := by decide +kernel
theorem dX6_cutSign_0 : decode cX6_cutSign 0 = .ok (.aload_n 1, 1) := by decide +kernel
theorem dX6_cutSign_1 : decode cX6_cutSign 1 = .ok (.iload_n 2, 1) := by decide +kernel
theorem dX6_cutSign_2 : decode cX6_cutSign 2 = .ok (.invokevirtual 44, 3) := by decide +kernel
theorem dX6_cutSign_5 : decode cX6_cutSign 5 = .ok (.invokestatic 68, 3) := by decide +kernel
theorem dX6_cutSign_8 : decode cX6_cutSign 8 = .ok (.istore_n 3, 1) := by decide +kernel
theorem dX6_cutSign_9 : decode cX6_cutSign 9 = .ok (.iload_n 3, 1) := by decide +kernel
theorem dX6_cutSign_10 : decode cX6_cutSign 10 = .ok (.bipush 11, 2) := by decide +kernel
theorem dX6_cutSign_12 : decode cX6_cutSign 12 = .ok (.if_icmp .eq 9, 3) := by decide +kernel
theorem dX6_cutSign_15 : decode cX6_cutSign 15 = .ok (.iload_n 3, 1) := by decide +kernel
theorem dX6_cutSign_16 : decode cX6_cutSign 16 = .ok (.bipush 15, 2) := by decide +kernel
theorem dX6_cutSign_18 : decode cX6_cutSign 18 = .ok (.if_icmp .ne 19, 3) := by decide +kernel
theorem dX6_cutSign_21 : decode cX6_cutSign 21 = .ok (.aload_n 1, 1) := by decide +kernel
theorem dX6_cutSign_22 : decode cX6_cutSign 22 = .ok (.iload_n 2, 1) := by decide +kernel
theorem dX6_cutSign_23 : decode cX6_cutSign 23 = .ok (.iconst 1, 1) := by decide +kernel
theorem dX6_cutSign_24 : decode cX6_cutSign 24 = .ok (.iadd, 1) := by decide +kernel
theorem dX6_cutSign_25 : decode cX6_cutSign 25 = .ok (.invokevirtual 44, 3) := by decide +kernel
theorem dX6_cutSign_28 : decode cX6_cutSign 28 = .ok (.bipush 61, 2) := by decide +kernel
theorem dX6_cutSign_30 : decode cX6_cutSign 30 = .ok (.if_icmp .ne 7, 3) := by decide +kernel
theorem dX6_cutSign_33 : decode cX6_cutSign 33 = .ok (.iconst 1, 1) := by decide +kernel
theorem dX6_cutSign_34 : decode cX6_cutSign 34 = .ok (.goto 4, 3) := by decide +kernel
theorem dX6_cutSign_37 : decode cX6_cutSign 37 = .ok (.iconst 0, 1) := by decide +kernel
theorem dX6_cutSign_38 : decode cX6_cutSign 38 = .ok (.istore 4, 2) := by decide +kernel
theorem dX6_cutSign_40 : decode cX6_cutSign 40 = .ok (.iload 4, 2) := by decide +kernel
theorem dX6_cutSign_42 : decode cX6_cutSign 42 = .ok (.ifCond .eq 17, 3) := by decide +kernel
theorem dX6_cutSign_45 : decode cX6_cutSign 45 = .ok (.iload_n 3, 1) := by decide +kernel
theorem dX6_cutSign_46 : decode cX6_cutSign 46 = .ok (.bipush 11, 2) := by decide +kernel
theorem dX6_cutSign_48 : decode cX6_cutSign 48 = .ok (.if_icmp .ne 8, 3) := by decide +kernel
theorem dX6_cutSign_51 : decode cX6_cutSign 51 = .ok (.bipush 12, 2) := by decide +kernel
theorem dX6_cutSign_53 : decode cX6_cutSign 53 = .ok (.goto 5, 3) := by decide +kernel
theorem dX6_cutSign_56 : decode cX6_cutSign 56 = .ok (.bipush 14, 2) := by decide +kernel
theorem dX6_cutSign_58 : decode cX6_cutSign 58 = .ok (.istore_n 3, 1) := by decide +kernel
theorem dX6_cutSign_59 : decode cX6_cutSign 59 = .ok (.aload_n 0, 1) := by decide +kernel
theorem dX6_cutSign_60 : decode cX6_cutSign 60 = .ok (.iload_n 3, 1) := by decide +kernel
theorem dX6_cutSign_61 : decode cX6_cutSign 61 = .ok (.iload_n 2, 1) := by decide +kernel
theorem dX6_cutSign_62 : decode cX6_cutSign 62 = .ok (.iconst 0, 1) := by decide +kernel
theorem dX6_cutSign_63 : decode cX6_cutSign 63 = .ok (.invokevirtual 40, 3) := by decide +kernel
theorem dX6_cutSign_66 : decode cX6_cutSign 66 = .ok (.iload 4, 2) := by decide +kernel
theorem dX6_cutSign_68 : decode cX6_cutSign 68 = .ok (.ifCond .eq 9, 3) := by decide +kernel
theorem dX6_cutSign_71 : decode cX6_cutSign 71 = .ok (.iload_n 2, 1) := by decide +kernel
theorem dX6_cutSign_72 : decode cX6_cutSign 72 = .ok (.iconst 2, 1) := by decide +kernel
theorem dX6_cutSign_73 : decode cX6_cutSign 73 = .ok (.iadd, 1) := by decide +kernel
theorem dX6_cutSign_74 : decode cX6_cutSign 74 = .ok (.goto 6, 3) := by decide +kernel
theorem dX6_cutSign_77 : decode cX6_cutSign 77 = .ok (.iload_n 2, 1) := by decide +kernel
theorem dX6_cutSign_78 : decode cX6_cutSign 78 = .ok (.iconst 1, 1) := by decide +kernel
theorem dX6_cutSign_79 : decode cX6_cutSign 79 = .ok (.iadd, 1) := by decide +kernel
theorem dX6_cutSign_80 : decode cX6_cutSign 80 = .ok (.ireturn, 1) := by decide +kernel
theorem dX6_add_0 : decode cX6_add 0 = .ok (.aload_n 0, 1) := by decide +kernel
theorem dX6_add_1 : decode cX6_add 1 = .ok (.getfield 21, 3) := by decide +kernel
theorem dX6_add_4 : decode cX6_add 4 = .ok (.ifCond .lt 53, 3) := by decide +kernel
theorem dX6_add_7 : decode cX6_add 7 = .ok (.aload_n 0, 1) := by decide +kernel
theorem dX6_add_8 : decode cX6_add 8 = .ok (.getfield 21, 3) := by decide +kernel
theorem dX6_add_11 : decode cX6_add 11 = .ok (.sipush 400, 3) := by decide +kernel
theorem dX6_add_14 : decode cX6_add 14 = .ok (.if_icmp .gt 43, 3) := by decide +kernel
theorem dX6_add_17 : decode cX6_add 17 = .ok (.aload_n 0, 1) := by decide +kernel
theorem dX6_add_18 : decode cX6_add 18 = .ok (.getfield 9, 3) := by decide +kernel
theorem dX6_add_21 : decode cX6_add 21 = .ok (.aload_n 0, 1) := by decide +kernel
theorem dX6_add_22 : decode cX6_add 22 = .ok (.getfield 21, 3) := by decide +kernel
theorem dX6_add_25 : decode cX6_add 25 = .ok (.iload_n 1, 1) := by decide +kernel
theorem dX6_add_26 : decode cX6_add 26 = .ok (.iastore, 1) := by decide +kernel
theorem dX6_add_27 : decode cX6_add 27 = .ok (.aload_n 0, 1) := by decide +kernel
theorem dX6_add_28 : decode cX6_add 28 = .ok (.getfield 15, 3) := by decide +kernel
theorem dX6_add_31 : decode cX6_add 31 = .ok (.aload_n 0, 1) := by decide +kernel
theorem dX6_add_32 : decode cX6_add 32 = .ok (.getfield 21, 3) := by decide +kernel
theorem dX6_add_35 : decode cX6_add 35 = .ok (.iload_n 2, 1) := by decide +kernel
theorem dX6_add_36 : decode cX6_add 36 = .ok (.iastore, 1) := by decide +kernel
theorem dX6_add_37 : decode cX6_add 37 = .ok (.aload_n 0, 1) := by decide +kernel
theorem dX6_add_38 : decode cX6_add 38 = .ok (.getfield 18, 3) := by decide +kernel
theorem dX6_add_41 : decode cX6_add 41 = .ok (.aload_n 0, 1) := by decide +kernel
theorem dX6_add_42 : decode cX6_add 42 = .ok (.getfield 21, 3) := by decide +kernel
theorem dX6_add_45 : decode cX6_add 45 = .ok (.iload_n 3, 1) := by decide +kernel
theorem dX6_add_46 : decode cX6_add 46 = .ok (.iastore, 1) := by decide +kernel
theorem dX6_add_47 : decode cX6_add 47 = .ok (.aload_n 0, 1) := by decide +kernel
theorem dX6_add_48 : decode cX6_add 48 = .ok (.dup, 1) := by decide +kernel
theorem dX6_add_49 : decode cX6_add 49 = .ok (.getfield 21, 3) := by decide +kernel
theorem dX6_add_52 : decode cX6_add 52 = .ok (.iconst 1, 1) := by decide +kernel
theorem dX6_add_53 : decode cX6_add 53 = .ok (.iadd, 1) := by decide +kernel
theorem dX6_add_54 : decode cX6_add 54 = .ok (.putfield 21, 3) := by decide +kernel
theorem dX6_add_57 : decode cX6_add 57 = .ok (.return_, 1) := by decide +kernel
theorem dX6_wordKind_0 : decode cX6_wordKind 0 = .ok (.iconst 0, 1) := by decide +kernel
theorem dX6_wordKind_1 : decode cX6_wordKind 1 = .ok (.istore_n 3, 1) := by decide +kernel
theorem dX6_wordKind_2 : decode cX6_wordKind 2 = .ok (.iload_n 3, 1) := by decide +kernel
theorem dX6_wordKind_3 : decode cX6_wordKind 3 = .ok (.bipush 6, 2) := by decide +kernel
theorem dX6_wordKind_5 : decode cX6_wordKind 5 = .ok (.imul, 1) := by decide +kernel
theorem dX6_wordKind_6 : decode cX6_wordKind 6 = .ok (.ldc 71, 2) := by decide +kernel
theorem dX6_wordKind_8 : decode cX6_wordKind 8 = .ok (.invokevirtual 73, 3) := by decide +kernel
theorem dX6_wordKind_11 : decode cX6_wordKind 11 = .ok (.if_icmp .ge 24, 3) := by decide +kernel
theorem dX6_wordKind_14 : decode cX6_wordKind 14 = .ok (.aload_n 0, 1) := by decide +kernel
theorem dX6_wordKind_15 : decode cX6_wordKind 15 = .ok (.iload_n 1, 1) := by decide +kernel
theorem dX6_wordKind_16 : decode cX6_wordKind 16 = .ok (.iload_n 2, 1) := by decide +kernel
theorem dX6_wordKind_17 : decode cX6_wordKind 17 = .ok (.iload_n 3, 1) := by decide +kernel
theorem dX6_wordKind_18 : decode cX6_wordKind 18 = .ok (.invokestatic 78, 3) := by decide +kernel
theorem dX6_wordKind_21 : decode cX6_wordKind 21 = .ok (.ifCond .eq 8, 3) := by decide +kernel
theorem dX6_wordKind_24 : decode cX6_wordKind 24 = .ok (.bipush 20, 2) := by decide +kernel
theorem dX6_wordKind_26 : decode cX6_wordKind 26 = .ok (.iload_n 3, 1) := by decide +kernel
theorem dX6_wordKind_27 : decode cX6_wordKind 27 = .ok (.iadd, 1) := by decide +kernel
theorem dX6_wordKind_28 : decode cX6_wordKind 28 = .ok (.ireturn, 1) := by decide +kernel
theorem dX6_wordKind_29 : decode cX6_wordKind 29 = .ok (.iinc 3 1, 3) := by decide +kernel
theorem dX6_wordKind_32 : decode cX6_wordKind 32 = .ok (.goto (-30), 3) := by decide +kernel
theorem dX6_wordKind_35 : decode cX6_wordKind 35 = .ok (.iconst 2, 1) := by decide +kernel
theorem dX6_wordKind_36 : decode cX6_wordKind 36 = .ok (.ireturn, 1) := by decide +kernel
theorem dX6_isWord_0 : decode cX6_isWord 0 = .ok (.iload_n 2, 1) := by decide +kernel
theorem dX6_isWord_1 : decode cX6_isWord 1 = .ok (.iload_n 1, 1) := by decide +kernel
theorem dX6_isWord_2 : decode cX6_isWord 2 = .ok (.isub, 1) := by decide +kernel
theorem dX6_isWord_3 : decode cX6_isWord 3 = .ok (.bipush 6, 2) := by decide +kernel
theorem dX6_isWord_5 : decode cX6_isWord 5 = .ok (.if_icmp .ge 17, 3) := by decide +kernel
theorem dX6_isWord_8 : decode cX6_isWord 8 = .ok (.iload_n 3, 1) := by decide +kernel
theorem dX6_isWord_9 : decode cX6_isWord 9 = .ok (.iconst 1, 1) := by decide +kernel
theorem dX6_isWord_10 : decode cX6_isWord 10 = .ok (.iadd, 1) := by decide +kernel
theorem dX6_isWord_11 : decode cX6_isWord 11 = .ok (.bipush 6, 2) := by decide +kernel
theorem dX6_isWord_13 : decode cX6_isWord 13 = .ok (.imul, 1) := by decide +kernel
theorem dX6_isWord_14 : decode cX6_isWord 14 = .ok (.ldc 71, 2) := by decide +kernel
theorem dX6_isWord_16 : decode cX6_isWord 16 = .ok (.invokevirtual 73, 3) := by decide +kernel
theorem dX6_isWord_19 : decode cX6_isWord 19 = .ok (.if_icmp .le 5, 3) := by decide +kernel
theorem dX6_isWord_22 : decode cX6_isWord 22 = .ok (.iconst 0, 1) := by decide +kernel
theorem dX6_isWord_23 : decode cX6_isWord 23 = .ok (.ireturn, 1) := by decide +kernel
theorem dX6_isWord_24 : decode cX6_isWord 24 = .ok (.iconst 0, 1) := by decide +kernel
theorem dX6_isWord_25 : decode cX6_isWord 25 = .ok (.istore 4, 2) := by decide +kernel
theorem dX6_isWord_27 : decode cX6_isWord 27 = .ok (.iload 4, 2) := by decide +kernel
theorem dX6_isWord_29 : decode cX6_isWord 29 = .ok (.bipush 6, 2) := by decide +kernel
theorem dX6_isWord_31 : decode cX6_isWord 31 = .ok (.if_icmp .ge 51, 3) := by decide +kernel
theorem dX6_isWord_34 : decode cX6_isWord 34 = .ok (.iload_n 1, 1) := by decide +kernel
theorem dX6_isWord_35 : decode cX6_isWord 35 = .ok (.iload 4, 2) := by decide +kernel
theorem dX6_isWord_37 : decode cX6_isWord 37 = .ok (.iadd, 1) := by decide +kernel
theorem dX6_isWord_38 : decode cX6_isWord 38 = .ok (.iload_n 2, 1) := by decide +kernel
theorem dX6_isWord_39 : decode cX6_isWord 39 = .ok (.if_icmp .ge 14, 3) := by decide +kernel
theorem dX6_isWord_42 : decode cX6_isWord 42 = .ok (.aload_n 0, 1) := by decide +kernel
theorem dX6_isWord_43 : decode cX6_isWord 43 = .ok (.iload_n 1, 1) := by decide +kernel
theorem dX6_isWord_44 : decode cX6_isWord 44 = .ok (.iload 4, 2) := by decide +kernel
theorem dX6_isWord_46 : decode cX6_isWord 46 = .ok (.iadd, 1) := by decide +kernel
theorem dX6_isWord_47 : decode cX6_isWord 47 = .ok (.invokevirtual 44, 3) := by decide +kernel
theorem dX6_isWord_50 : decode cX6_isWord 50 = .ok (.goto 5, 3) := by decide +kernel
theorem dX6_isWord_53 : decode cX6_isWord 53 = .ok (.bipush 32, 2) := by decide +kernel
theorem dX6_isWord_55 : decode cX6_isWord 55 = .ok (.istore 5, 2) := by decide +kernel
theorem dX6_isWord_57 : decode cX6_isWord 57 = .ok (.ldc 71, 2) := by decide +kernel
theorem dX6_isWord_59 : decode cX6_isWord 59 = .ok (.iload_n 3, 1) := by decide +kernel
theorem dX6_isWord_60 : decode cX6_isWord 60 = .ok (.bipush 6, 2) := by decide +kernel
theorem dX6_isWord_62 : decode cX6_isWord 62 = .ok (.imul, 1) := by decide +kernel
theorem dX6_isWord_63 : decode cX6_isWord 63 = .ok (.iload 4, 2) := by decide +kernel
theorem dX6_isWord_65 : decode cX6_isWord 65 = .ok (.iadd, 1) := by decide +kernel
theorem dX6_isWord_66 : decode cX6_isWord 66 = .ok (.invokevirtual 82, 3) := by decide +kernel
theorem dX6_isWord_69 : decode cX6_isWord 69 = .ok (.iload 5, 2) := by decide +kernel
theorem dX6_isWord_71 : decode cX6_isWord 71 = .ok (.if_icmp .eq 5, 3) := by decide +kernel
theorem dX6_isWord_74 : decode cX6_isWord 74 = .ok (.iconst 0, 1) := by decide +kernel
theorem dX6_isWord_75 : decode cX6_isWord 75 = .ok (.ireturn, 1) := by decide +kernel
theorem dX6_isWord_76 : decode cX6_isWord 76 = .ok (.iinc 4 1, 3) := by decide +kernel
theorem dX6_isWord_79 : decode cX6_isWord 79 = .ok (.goto (-52), 3) := by decide +kernel
theorem dX6_isWord_82 : decode cX6_isWord 82 = .ok (.iconst 1, 1) := by decide +kernel
theorem dX6_isWord_83 : decode cX6_isWord 83 = .ok (.ireturn, 1) := by decide +kernel
theorem dX6_signKind_0 : decode cX6_signKind 0 = .ok (.iload_n 0, 1) := by decide +kernel
theorem dX6_signKind_1 : decode cX6_signKind 1 = .ok (.lookupswitch 119 #[(42, 104), (43, 98), (45, 101), (47, 107), (59, 91), (60, 110), (61, 113), (62, 116), (91, 93), (93, 95)], 91) := by decide +kernel
theorem dX6_signKind_92 : decode cX6_signKind 92 = .ok (.iconst 4, 1) := by decide +kernel
theorem dX6_signKind_93 : decode cX6_signKind 93 = .ok (.ireturn, 1) := by decide +kernel
theorem dX6_signKind_94 : decode cX6_signKind 94 = .ok (.iconst 5, 1) := by decide +kernel
theorem dX6_signKind_95 : decode cX6_signKind 95 = .ok (.ireturn, 1) := by decide +kernel
theorem dX6_signKind_96 : decode cX6_signKind 96 = .ok (.bipush 6, 2) := by decide +kernel
theorem dX6_signKind_98 : decode cX6_signKind 98 = .ok (.ireturn, 1) := by decide +kernel
theorem dX6_signKind_99 : decode cX6_signKind 99 = .ok (.bipush 7, 2) := by decide +kernel
theorem dX6_signKind_101 : decode cX6_signKind 101 = .ok (.ireturn, 1) := by decide +kernel
theorem dX6_signKind_102 : decode cX6_signKind 102 = .ok (.bipush 8, 2) := by decide +kernel
theorem dX6_signKind_104 : decode cX6_signKind 104 = .ok (.ireturn, 1) := by decide +kernel
theorem dX6_signKind_105 : decode cX6_signKind 105 = .ok (.bipush 9, 2) := by decide +kernel
theorem dX6_signKind_107 : decode cX6_signKind 107 = .ok (.ireturn, 1) := by decide +kernel
theorem dX6_signKind_108 : decode cX6_signKind 108 = .ok (.bipush 10, 2) := by decide +kernel
theorem dX6_signKind_110 : decode cX6_signKind 110 = .ok (.ireturn, 1) := by decide +kernel
theorem dX6_signKind_111 : decode cX6_signKind 111 = .ok (.bipush 11, 2) := by decide +kernel
theorem dX6_signKind_113 : decode cX6_signKind 113 = .ok (.ireturn, 1) := by decide +kernel
theorem dX6_signKind_114 : decode cX6_signKind 114 = .ok (.bipush 13, 2) := by decide +kernel
theorem dX6_signKind_116 : decode cX6_signKind 116 = .ok (.ireturn, 1) := by decide +kernel
theorem dX6_signKind_117 : decode cX6_signKind 117 = .ok (.bipush 15, 2) := by decide +kernel
theorem dX6_signKind_119 : decode cX6_signKind 119 = .ok (.ireturn, 1) := by decide +kernel
theorem dX6_signKind_120 : decode cX6_signKind 120 = .ok (.iconst 2, 1) := by decide +kernel
theorem dX6_signKind_121 : decode cX6_signKind 121 = .ok (.ireturn, 1) := by decide +kernel
theorem dX6_isDigit_0 : decode cX6_isDigit 0 = .ok (.iload_n 0, 1) := by decide +kernel
theorem dX6_isDigit_1 : decode cX6_isDigit 1 = .ok (.bipush 48, 2) := by decide +kernel
theorem dX6_isDigit_3 : decode cX6_isDigit 3 = .ok (.if_icmp .lt 13, 3) := by decide +kernel
theorem dX6_isDigit_6 : decode cX6_isDigit 6 = .ok (.iload_n 0, 1) := by decide +kernel
theorem dX6_isDigit_7 : decode cX6_isDigit 7 = .ok (.bipush 57, 2) := by decide +kernel
theorem dX6_isDigit_9 : decode cX6_isDigit 9 = .ok (.if_icmp .gt 7, 3) := by decide +kernel
theorem dX6_isDigit_12 : decode cX6_isDigit 12 = .ok (.iconst 1, 1) := by decide +kernel
theorem dX6_isDigit_13 : decode cX6_isDigit 13 = .ok (.goto 4, 3) := by decide +kernel
theorem dX6_isDigit_16 : decode cX6_isDigit 16 = .ok (.iconst 0, 1) := by decide +kernel
theorem dX6_isDigit_17 : decode cX6_isDigit 17 = .ok (.ireturn, 1) := by decide +kernel
theorem dX6_isLetter_0 : decode cX6_isLetter 0 = .ok (.iload_n 0, 1) := by decide +kernel
theorem dX6_isLetter_1 : decode cX6_isLetter 1 = .ok (.bipush 97, 2) := by decide +kernel
theorem dX6_isLetter_3 : decode cX6_isLetter 3 = .ok (.if_icmp .lt 13, 3) := by decide +kernel
theorem dX6_isLetter_6 : decode cX6_isLetter 6 = .ok (.iload_n 0, 1) := by decide +kernel
theorem dX6_isLetter_7 : decode cX6_isLetter 7 = .ok (.bipush 122, 2) := by decide +kernel
theorem dX6_isLetter_9 : decode cX6_isLetter 9 = .ok (.if_icmp .gt 7, 3) := by decide +kernel
theorem dX6_isLetter_12 : decode cX6_isLetter 12 = .ok (.iconst 1, 1) := by decide +kernel
theorem dX6_isLetter_13 : decode cX6_isLetter 13 = .ok (.goto 4, 3) := by decide +kernel
theorem dX6_isLetter_16 : decode cX6_isLetter 16 = .ok (.iconst 0, 1) := by decide +kernel
theorem dX6_isLetter_17 : decode cX6_isLetter 17 = .ok (.ireturn, 1) := by decide +kernel
theorem dX7_init_0 : decode cX7_init 0 = .ok (.aload_n 0, 1) := by decide +kernel
theorem dX7_init_1 : decode cX7_init 1 = .ok (.invokespecial 3, 3) := by decide +kernel
theorem dX7_init_4 : decode cX7_init 4 = .ok (.aload_n 0, 1) := by decide +kernel
theorem dX7_init_5 : decode cX7_init 5 = .ok (.iconst 0, 1) := by decide +kernel
theorem dX7_init_6 : decode cX7_init 6 = .ok (.putfield 9, 3) := by decide +kernel
theorem dX7_init_9 : decode cX7_init 9 = .ok (.aload_n 0, 1) := by decide +kernel
theorem dX7_init_10 : decode cX7_init 10 = .ok (.bipush 12, 2) := by decide +kernel
theorem dX7_init_12 : decode cX7_init 12 = .ok (.newarray .int, 2) := by decide +kernel
theorem dX7_init_14 : decode cX7_init 14 = .ok (.putfield 15, 3) := by decide +kernel
theorem dX7_init_17 : decode cX7_init 17 = .ok (.aload_n 0, 1) := by decide +kernel
theorem dX7_init_18 : decode cX7_init 18 = .ok (.bipush 12, 2) := by decide +kernel
theorem dX7_init_20 : decode cX7_init 20 = .ok (.newarray .int, 2) := by decide +kernel
theorem dX7_init_22 : decode cX7_init 22 = .ok (.putfield 19, 3) := by decide +kernel
theorem dX7_init_25 : decode cX7_init 25 = .ok (.aload_n 0, 1) := by decide +kernel
theorem dX7_init_26 : decode cX7_init 26 = .ok (.bipush 12, 2) := by decide +kernel
theorem dX7_init_28 : decode cX7_init 28 = .ok (.newarray .int, 2) := by decide +kernel
theorem dX7_init_30 : decode cX7_init 30 = .ok (.putfield 22, 3) := by decide +kernel
theorem dX7_init_33 : decode cX7_init 33 = .ok (.aload_n 0, 1) := by decide +kernel
theorem dX7_init_34 : decode cX7_init 34 = .ok (.bipush 12, 2) := by decide +kernel
theorem dX7_init_36 : decode cX7_init 36 = .ok (.newarray .int, 2) := by decide +kernel
theorem dX7_init_38 : decode cX7_init 38 = .ok (.putfield 25, 3) := by decide +kernel
theorem dX7_init_41 : decode cX7_init 41 = .ok (.aload_n 0, 1) := by decide +kernel
theorem dX7_init_42 : decode cX7_init 42 = .ok (.bipush 12, 2) := by decide +kernel
theorem dX7_init_44 : decode cX7_init 44 = .ok (.newarray .int, 2) := by decide +kernel
theorem dX7_init_46 : decode cX7_init 46 = .ok (.putfield 28, 3) := by decide +kernel
theorem dX7_init_49 : decode cX7_init 49 = .ok (.aload_n 0, 1) := by decide +kernel
theorem dX7_init_50 : decode cX7_init 50 = .ok (.bipush 12, 2) := by decide +kernel
theorem dX7_init_52 : decode cX7_init 52 = .ok (.newarray .int, 2) := by decide +kernel
theorem dX7_init_54 : decode cX7_init 54 = .ok (.putfield 31, 3) := by decide +kernel
theorem dX7_init_57 : decode cX7_init 57 = .ok (.aload_n 0, 1) := by decide +kernel
theorem dX7_init_58 : decode cX7_init 58 = .ok (.bipush 12, 2) := by decide +kernel
theorem dX7_init_60 : decode cX7_init 60 = .ok (.newarray .int, 2) := by decide +kernel
theorem dX7_init_62 : decode cX7_init 62 = .ok (.putfield 34, 3) := by decide +kernel
theorem dX7_init_65 : decode cX7_init 65 = .ok (.aload_n 0, 1) := by decide +kernel
theorem dX7_init_66 : decode cX7_init 66 = .ok (.iconst 0, 1) := by decide +kernel
theorem dX7_init_67 : decode cX7_init 67 = .ok (.putfield 37, 3) := by decide +kernel
theorem dX7_init_70 : decode cX7_init 70 = .ok (.aload_n 0, 1) := by decide +kernel
theorem dX7_init_71 : decode cX7_init 71 = .ok (.bipush 12, 2) := by decide +kernel
theorem dX7_init_73 : decode cX7_init 73 = .ok (.newarray .int, 2) := by decide +kernel
theorem dX7_init_75 : decode cX7_init 75 = .ok (.putfield 40, 3) := by decide +kernel
theorem dX7_init_78 : decode cX7_init 78 = .ok (.aload_n 0, 1) := by decide +kernel
theorem dX7_init_79 : decode cX7_init 79 = .ok (.bipush 12, 2) := by decide +kernel
theorem dX7_init_81 : decode cX7_init 81 = .ok (.newarray .int, 2) := by decide +kernel
theorem dX7_init_83 : decode cX7_init 83 = .ok (.putfield 43, 3) := by decide +kernel
theorem dX7_init_86 : decode cX7_init 86 = .ok (.aload_n 0, 1) := by decide +kernel
theorem dX7_init_87 : decode cX7_init 87 = .ok (.iconst 0, 1) := by decide +kernel
theorem dX7_init_88 : decode cX7_init 88 = .ok (.putfield 46, 3) := by decide +kernel
theorem dX7_init_91 : decode cX7_init 91 = .ok (.aload_n 0, 1) := by decide +kernel
theorem dX7_init_92 : decode cX7_init 92 = .ok (.bipush 32, 2) := by decide +kernel
theorem dX7_init_94 : decode cX7_init 94 = .ok (.newarray .int, 2) := by decide +kernel
theorem dX7_init_96 : decode cX7_init 96 = .ok (.putfield 49, 3) := by decide +kernel
theorem dX7_init_99 : decode cX7_init 99 = .ok (.aload_n 0, 1) := by decide +kernel
theorem dX7_init_100 : decode cX7_init 100 = .ok (.iconst 0, 1) := by decide +kernel
theorem dX7_init_101 : decode cX7_init 101 = .ok (.putfield 52, 3) := by decide +kernel
theorem dX7_init_104 : decode cX7_init 104 = .ok (.return_, 1) := by decide +kernel
theorem dX7_clear_0 : decode cX7_clear 0 = .ok (.aload_n 0, 1) := by decide +kernel
theorem dX7_clear_1 : decode cX7_clear 1 = .ok (.iconst 0, 1) := by decide +kernel
theorem dX7_clear_2 : decode cX7_clear 2 = .ok (.putfield 9, 3) := by decide +kernel
theorem dX7_clear_5 : decode cX7_clear 5 = .ok (.aload_n 0, 1) := by decide +kernel
theorem dX7_clear_6 : decode cX7_clear 6 = .ok (.iconst 0, 1) := by decide +kernel
theorem dX7_clear_7 : decode cX7_clear 7 = .ok (.putfield 37, 3) := by decide +kernel
theorem dX7_clear_10 : decode cX7_clear 10 = .ok (.aload_n 0, 1) := by decide +kernel
theorem dX7_clear_11 : decode cX7_clear 11 = .ok (.iconst 0, 1) := by decide +kernel
theorem dX7_clear_12 : decode cX7_clear 12 = .ok (.putfield 46, 3) := by decide +kernel
theorem dX7_clear_15 : decode cX7_clear 15 = .ok (.iconst 0, 1) := by decide +kernel
theorem dX7_clear_16 : decode cX7_clear 16 = .ok (.istore_n 1, 1) := by decide +kernel
theorem dX7_clear_17 : decode cX7_clear 17 = .ok (.iload_n 1, 1) := by decide +kernel
theorem dX7_clear_18 : decode cX7_clear 18 = .ok (.bipush 32, 2) := by decide +kernel
theorem dX7_clear_20 : decode cX7_clear 20 = .ok (.if_icmp .ge 16, 3) := by decide +kernel
theorem dX7_clear_23 : decode cX7_clear 23 = .ok (.aload_n 0, 1) := by decide +kernel
theorem dX7_clear_24 : decode cX7_clear 24 = .ok (.getfield 49, 3) := by decide +kernel
theorem dX7_clear_27 : decode cX7_clear 27 = .ok (.iload_n 1, 1) := by decide +kernel
theorem dX7_clear_28 : decode cX7_clear 28 = .ok (.iconst 0, 1) := by decide +kernel
theorem dX7_clear_29 : decode cX7_clear 29 = .ok (.iastore, 1) := by decide +kernel
theorem dX7_clear_30 : decode cX7_clear 30 = .ok (.iinc 1 1, 3) := by decide +kernel
theorem dX7_clear_33 : decode cX7_clear 33 = .ok (.goto (-16), 3) := by decide +kernel
theorem dX7_clear_36 : decode cX7_clear 36 = .ok (.return_, 1) := by decide +kernel
theorem dX7_become_0 : decode cX7_become 0 = .ok (.aload_n 0, 1) := by decide +kernel
theorem dX7_become_1 : decode cX7_become 1 = .ok (.aload_n 1, 1) := by decide +kernel
theorem dX7_become_2 : decode cX7_become 2 = .ok (.getfield 9, 3) := by decide +kernel
theorem dX7_become_5 : decode cX7_become 5 = .ok (.putfield 9, 3) := by decide +kernel
theorem dX7_become_8 : decode cX7_become 8 = .ok (.aload_n 1, 1) := by decide +kernel
theorem dX7_become_9 : decode cX7_become 9 = .ok (.getfield 15, 3) := by decide +kernel
theorem dX7_become_12 : decode cX7_become 12 = .ok (.iconst 0, 1) := by decide +kernel
theorem dX7_become_13 : decode cX7_become 13 = .ok (.aload_n 0, 1) := by decide +kernel
theorem dX7_become_14 : decode cX7_become 14 = .ok (.getfield 15, 3) := by decide +kernel
theorem dX7_become_17 : decode cX7_become 17 = .ok (.iconst 0, 1) := by decide +kernel
theorem dX7_become_18 : decode cX7_become 18 = .ok (.bipush 12, 2) := by decide +kernel
theorem dX7_become_20 : decode cX7_become 20 = .ok (.invokestatic 55, 3) := by decide +kernel
theorem dX7_become_23 : decode cX7_become 23 = .ok (.aload_n 1, 1) := by decide +kernel
theorem dX7_become_24 : decode cX7_become 24 = .ok (.getfield 19, 3) := by decide +kernel
theorem dX7_become_27 : decode cX7_become 27 = .ok (.iconst 0, 1) := by decide +kernel
theorem dX7_become_28 : decode cX7_become 28 = .ok (.aload_n 0, 1) := by decide +kernel
theorem dX7_become_29 : decode cX7_become 29 = .ok (.getfield 19, 3) := by decide +kernel
theorem dX7_become_32 : decode cX7_become 32 = .ok (.iconst 0, 1) := by decide +kernel
theorem dX7_become_33 : decode cX7_become 33 = .ok (.bipush 12, 2) := by decide +kernel
theorem dX7_become_35 : decode cX7_become 35 = .ok (.invokestatic 55, 3) := by decide +kernel
theorem dX7_become_38 : decode cX7_become 38 = .ok (.aload_n 1, 1) := by decide +kernel
theorem dX7_become_39 : decode cX7_become 39 = .ok (.getfield 22, 3) := by decide +kernel
theorem dX7_become_42 : decode cX7_become 42 = .ok (.iconst 0, 1) := by decide +kernel
theorem dX7_become_43 : decode cX7_become 43 = .ok (.aload_n 0, 1) := by decide +kernel
theorem dX7_become_44 : decode cX7_become 44 = .ok (.getfield 22, 3) := by decide +kernel
theorem dX7_become_47 : decode cX7_become 47 = .ok (.iconst 0, 1) := by decide +kernel
theorem dX7_become_48 : decode cX7_become 48 = .ok (.bipush 12, 2) := by decide +kernel
theorem dX7_become_50 : decode cX7_become 50 = .ok (.invokestatic 55, 3) := by decide +kernel
theorem dX7_become_53 : decode cX7_become 53 = .ok (.aload_n 1, 1) := by decide +kernel
theorem dX7_become_54 : decode cX7_become 54 = .ok (.getfield 25, 3) := by decide +kernel
theorem dX7_become_57 : decode cX7_become 57 = .ok (.iconst 0, 1) := by decide +kernel
theorem dX7_become_58 : decode cX7_become 58 = .ok (.aload_n 0, 1) := by decide +kernel
theorem dX7_become_59 : decode cX7_become 59 = .ok (.getfield 25, 3) := by decide +kernel
theorem dX7_become_62 : decode cX7_become 62 = .ok (.iconst 0, 1) := by decide +kernel
theorem dX7_become_63 : decode cX7_become 63 = .ok (.bipush 12, 2) := by decide +kernel
theorem dX7_become_65 : decode cX7_become 65 = .ok (.invokestatic 55, 3) := by decide +kernel
theorem dX7_become_68 : decode cX7_become 68 = .ok (.aload_n 1, 1) := by decide +kernel
theorem dX7_become_69 : decode cX7_become 69 = .ok (.getfield 28, 3) := by decide +kernel
theorem dX7_become_72 : decode cX7_become 72 = .ok (.iconst 0, 1) := by decide +kernel
theorem dX7_become_73 : decode cX7_become 73 = .ok (.aload_n 0, 1) := by decide +kernel
theorem dX7_become_74 : decode cX7_become 74 = .ok (.getfield 28, 3) := by decide +kernel
theorem dX7_become_77 : decode cX7_become 77 = .ok (.iconst 0, 1) := by decide +kernel
theorem dX7_become_78 : decode cX7_become 78 = .ok (.bipush 12, 2) := by decide +kernel
theorem dX7_become_80 : decode cX7_become 80 = .ok (.invokestatic 55, 3) := by decide +kernel
theorem dX7_become_83 : decode cX7_become 83 = .ok (.aload_n 1, 1) := by decide +kernel
theorem dX7_become_84 : decode cX7_become 84 = .ok (.getfield 31, 3) := by decide +kernel
theorem dX7_become_87 : decode cX7_become 87 = .ok (.iconst 0, 1) := by decide +kernel
theorem dX7_become_88 : decode cX7_become 88 = .ok (.aload_n 0, 1) := by decide +kernel
theorem dX7_become_89 : decode cX7_become 89 = .ok (.getfield 31, 3) := by decide +kernel
theorem dX7_become_92 : decode cX7_become 92 = .ok (.iconst 0, 1) := by decide +kernel
theorem dX7_become_93 : decode cX7_become 93 = .ok (.bipush 12, 2) := by decide +kernel
theorem dX7_become_95 : decode cX7_become 95 = .ok (.invokestatic 55, 3) := by decide +kernel
theorem dX7_become_98 : decode cX7_become 98 = .ok (.aload_n 1, 1) := by decide +kernel
theorem dX7_become_99 : decode cX7_become 99 = .ok (.getfield 34, 3) := by decide +kernel
theorem dX7_become_102 : decode cX7_become 102 = .ok (.iconst 0, 1) := by decide +kernel
theorem dX7_become_103 : decode cX7_become 103 = .ok (.aload_n 0, 1) := by decide +kernel
theorem dX7_become_104 : decode cX7_become 104 = .ok (.getfield 34, 3) := by decide +kernel
theorem dX7_become_107 : decode cX7_become 107 = .ok (.iconst 0, 1) := by decide +kernel
theorem dX7_become_108 : decode cX7_become 108 = .ok (.bipush 12, 2) := by decide +kernel
theorem dX7_become_110 : decode cX7_become 110 = .ok (.invokestatic 55, 3) := by decide +kernel
theorem dX7_become_113 : decode cX7_become 113 = .ok (.aload_n 0, 1) := by decide +kernel
theorem dX7_become_114 : decode cX7_become 114 = .ok (.aload_n 1, 1) := by decide +kernel
theorem dX7_become_115 : decode cX7_become 115 = .ok (.getfield 37, 3) := by decide +kernel
theorem dX7_become_118 : decode cX7_become 118 = .ok (.putfield 37, 3) := by decide +kernel
theorem dX7_become_121 : decode cX7_become 121 = .ok (.aload_n 1, 1) := by decide +kernel
theorem dX7_become_122 : decode cX7_become 122 = .ok (.getfield 40, 3) := by decide +kernel
theorem dX7_become_125 : decode cX7_become 125 = .ok (.iconst 0, 1) := by decide +kernel
theorem dX7_become_126 : decode cX7_become 126 = .ok (.aload_n 0, 1) := by decide +kernel
theorem dX7_become_127 : decode cX7_become 127 = .ok (.getfield 40, 3) := by decide +kernel
theorem dX7_become_130 : decode cX7_become 130 = .ok (.iconst 0, 1) := by decide +kernel
theorem dX7_become_131 : decode cX7_become 131 = .ok (.bipush 12, 2) := by decide +kernel
theorem dX7_become_133 : decode cX7_become 133 = .ok (.invokestatic 55, 3) := by decide +kernel
theorem dX7_become_136 : decode cX7_become 136 = .ok (.aload_n 1, 1) := by decide +kernel
theorem dX7_become_137 : decode cX7_become 137 = .ok (.getfield 43, 3) := by decide +kernel
theorem dX7_become_140 : decode cX7_become 140 = .ok (.iconst 0, 1) := by decide +kernel
theorem dX7_become_141 : decode cX7_become 141 = .ok (.aload_n 0, 1) := by decide +kernel
theorem dX7_become_142 : decode cX7_become 142 = .ok (.getfield 43, 3) := by decide +kernel
theorem dX7_become_145 : decode cX7_become 145 = .ok (.iconst 0, 1) := by decide +kernel
theorem dX7_become_146 : decode cX7_become 146 = .ok (.bipush 12, 2) := by decide +kernel
theorem dX7_become_148 : decode cX7_become 148 = .ok (.invokestatic 55, 3) := by decide +kernel
theorem dX7_become_151 : decode cX7_become 151 = .ok (.aload_n 0, 1) := by decide +kernel
theorem dX7_become_152 : decode cX7_become 152 = .ok (.aload_n 1, 1) := by decide +kernel
theorem dX7_become_153 : decode cX7_become 153 = .ok (.getfield 46, 3) := by decide +kernel
theorem dX7_become_156 : decode cX7_become 156 = .ok (.putfield 46, 3) := by decide +kernel
theorem dX7_become_159 : decode cX7_become 159 = .ok (.aload_n 1, 1) := by decide +kernel
theorem dX7_become_160 : decode cX7_become 160 = .ok (.getfield 49, 3) := by decide +kernel
theorem dX7_become_163 : decode cX7_become 163 = .ok (.iconst 0, 1) := by decide +kernel
theorem dX7_become_164 : decode cX7_become 164 = .ok (.aload_n 0, 1) := by decide +kernel
theorem dX7_become_165 : decode cX7_become 165 = .ok (.getfield 49, 3) := by decide +kernel
theorem dX7_become_168 : decode cX7_become 168 = .ok (.iconst 0, 1) := by decide +kernel
theorem dX7_become_169 : decode cX7_become 169 = .ok (.bipush 32, 2) := by decide +kernel
theorem dX7_become_171 : decode cX7_become 171 = .ok (.invokestatic 55, 3) := by decide +kernel
theorem dX7_become_174 : decode cX7_become 174 = .ok (.aload_n 0, 1) := by decide +kernel
theorem dX7_become_175 : decode cX7_become 175 = .ok (.aload_n 1, 1) := by decide +kernel
theorem dX7_become_176 : decode cX7_become 176 = .ok (.getfield 52, 3) := by decide +kernel
theorem dX7_become_179 : decode cX7_become 179 = .ok (.putfield 52, 3) := by decide +kernel
theorem dX7_become_182 : decode cX7_become 182 = .ok (.return_, 1) := by decide +kernel
theorem dX7_hasCock_0 : decode cX7_hasCock 0 = .ok (.iload_n 1, 1) := by decide +kernel
theorem dX7_hasCock_1 : decode cX7_hasCock 1 = .ok (.ifCond .lt 21, 3) := by decide +kernel
theorem dX7_hasCock_4 : decode cX7_hasCock 4 = .ok (.iload_n 1, 1) := by decide +kernel
theorem dX7_hasCock_5 : decode cX7_hasCock 5 = .ok (.aload_n 0, 1) := by decide +kernel
theorem dX7_hasCock_6 : decode cX7_hasCock 6 = .ok (.getfield 9, 3) := by decide +kernel
theorem dX7_hasCock_9 : decode cX7_hasCock 9 = .ok (.if_icmp .ge 13, 3) := by decide +kernel
theorem dX7_hasCock_12 : decode cX7_hasCock 12 = .ok (.iload_n 1, 1) := by decide +kernel
theorem dX7_hasCock_13 : decode cX7_hasCock 13 = .ok (.bipush 12, 2) := by decide +kernel
theorem dX7_hasCock_15 : decode cX7_hasCock 15 = .ok (.if_icmp .ge 7, 3) := by decide +kernel
theorem dX7_hasCock_18 : decode cX7_hasCock 18 = .ok (.iconst 1, 1) := by decide +kernel
theorem dX7_hasCock_19 : decode cX7_hasCock 19 = .ok (.goto 4, 3) := by decide +kernel
theorem dX7_hasCock_22 : decode cX7_hasCock 22 = .ok (.iconst 0, 1) := by decide +kernel
theorem dX7_hasCock_23 : decode cX7_hasCock 23 = .ok (.ireturn, 1) := by decide +kernel
theorem dX7_hasAllOf_0 : decode cX7_hasAllOf 0 = .ok (.iload_n 1, 1) := by decide +kernel
theorem dX7_hasAllOf_1 : decode cX7_hasAllOf 1 = .ok (.iconst 1, 1) := by decide +kernel
theorem dX7_hasAllOf_2 : decode cX7_hasAllOf 2 = .ok (.aload_n 0, 1) := by decide +kernel
theorem dX7_hasAllOf_3 : decode cX7_hasAllOf 3 = .ok (.getfield 9, 3) := by decide +kernel
theorem dX7_hasAllOf_6 : decode cX7_hasAllOf 6 = .ok (.ishl, 1) := by decide +kernel
theorem dX7_hasAllOf_7 : decode cX7_hasAllOf 7 = .ok (.invokestatic 61, 3) := by decide +kernel
theorem dX7_hasAllOf_10 : decode cX7_hasAllOf 10 = .ok (.ireturn, 1) := by decide +kernel
theorem dX7_hasTree_0 : decode cX7_hasTree 0 = .ok (.iload_n 1, 1) := by decide +kernel
theorem dX7_hasTree_1 : decode cX7_hasTree 1 = .ok (.ifCond .lt 21, 3) := by decide +kernel
theorem dX7_hasTree_4 : decode cX7_hasTree 4 = .ok (.iload_n 1, 1) := by decide +kernel
theorem dX7_hasTree_5 : decode cX7_hasTree 5 = .ok (.aload_n 0, 1) := by decide +kernel
theorem dX7_hasTree_6 : decode cX7_hasTree 6 = .ok (.getfield 37, 3) := by decide +kernel
theorem dX7_hasTree_9 : decode cX7_hasTree 9 = .ok (.if_icmp .ge 13, 3) := by decide +kernel
theorem dX7_hasTree_12 : decode cX7_hasTree 12 = .ok (.iload_n 1, 1) := by decide +kernel
theorem dX7_hasTree_13 : decode cX7_hasTree 13 = .ok (.bipush 12, 2) := by decide +kernel
theorem dX7_hasTree_15 : decode cX7_hasTree 15 = .ok (.if_icmp .ge 7, 3) := by decide +kernel
theorem dX7_hasTree_18 : decode cX7_hasTree 18 = .ok (.iconst 1, 1) := by decide +kernel
theorem dX7_hasTree_19 : decode cX7_hasTree 19 = .ok (.goto 4, 3) := by decide +kernel
theorem dX7_hasTree_22 : decode cX7_hasTree 22 = .ok (.iconst 0, 1) := by decide +kernel
theorem dX7_hasTree_23 : decode cX7_hasTree 23 = .ok (.ireturn, 1) := by decide +kernel
theorem dX7_keepMorning_0 : decode cX7_keepMorning 0 = .ok (.aload_n 0, 1) := by decide +kernel
theorem dX7_keepMorning_1 : decode cX7_keepMorning 1 = .ok (.getfield 31, 3) := by decide +kernel
theorem dX7_keepMorning_4 : decode cX7_keepMorning 4 = .ok (.iconst 0, 1) := by decide +kernel
theorem dX7_keepMorning_5 : decode cX7_keepMorning 5 = .ok (.aload_n 0, 1) := by decide +kernel
theorem dX7_keepMorning_6 : decode cX7_keepMorning 6 = .ok (.getfield 34, 3) := by decide +kernel
theorem dX7_keepMorning_9 : decode cX7_keepMorning 9 = .ok (.iconst 0, 1) := by decide +kernel
theorem dX7_keepMorning_10 : decode cX7_keepMorning 10 = .ok (.bipush 12, 2) := by decide +kernel
theorem dX7_keepMorning_12 : decode cX7_keepMorning 12 = .ok (.invokestatic 55, 3) := by decide +kernel
theorem dX7_keepMorning_15 : decode cX7_keepMorning 15 = .ok (.return_, 1) := by decide +kernel
theorem dX7_gain_0 : decode cX7_gain 0 = .ok (.iload_n 1, 1) := by decide +kernel
theorem dX7_gain_1 : decode cX7_gain 1 = .ok (.iconst 4, 1) := by decide +kernel
theorem dX7_gain_2 : decode cX7_gain 2 = .ok (.invokestatic 61, 3) := by decide +kernel
theorem dX7_gain_5 : decode cX7_gain 5 = .ok (.ifCond .eq 26, 3) := by decide +kernel
theorem dX7_gain_8 : decode cX7_gain 8 = .ok (.iload_n 2, 1) := by decide +kernel
theorem dX7_gain_9 : decode cX7_gain 9 = .ok (.bipush 8, 2) := by decide +kernel
theorem dX7_gain_11 : decode cX7_gain 11 = .ok (.invokestatic 61, 3) := by decide +kernel
theorem dX7_gain_14 : decode cX7_gain 14 = .ok (.ifCond .eq 17, 3) := by decide +kernel
theorem dX7_gain_17 : decode cX7_gain 17 = .ok (.aload_n 0, 1) := by decide +kernel
theorem dX7_gain_18 : decode cX7_gain 18 = .ok (.getfield 49, 3) := by decide +kernel
theorem dX7_gain_21 : decode cX7_gain 21 = .ok (.iload_n 1, 1) := by decide +kernel
theorem dX7_gain_22 : decode cX7_gain 22 = .ok (.bipush 8, 2) := by decide +kernel
theorem dX7_gain_24 : decode cX7_gain 24 = .ok (.imul, 1) := by decide +kernel
theorem dX7_gain_25 : decode cX7_gain 25 = .ok (.iload_n 2, 1) := by decide +kernel
theorem dX7_gain_26 : decode cX7_gain 26 = .ok (.iadd, 1) := by decide +kernel
theorem dX7_gain_27 : decode cX7_gain 27 = .ok (.iaload, 1) := by decide +kernel
theorem dX7_gain_28 : decode cX7_gain 28 = .ok (.goto 4, 3) := by decide +kernel
theorem dX7_gain_31 : decode cX7_gain 31 = .ok (.iconst 0, 1) := by decide +kernel
theorem dX7_gain_32 : decode cX7_gain 32 = .ok (.ireturn, 1) := by decide +kernel
theorem dX7_setGain_0 : decode cX7_setGain 0 = .ok (.iload_n 1, 1) := by decide +kernel
theorem dX7_setGain_1 : decode cX7_setGain 1 = .ok (.iconst 4, 1) := by decide +kernel
theorem dX7_setGain_2 : decode cX7_setGain 2 = .ok (.invokestatic 61, 3) := by decide +kernel
theorem dX7_setGain_5 : decode cX7_setGain 5 = .ok (.ifCond .eq 24, 3) := by decide +kernel
theorem dX7_setGain_8 : decode cX7_setGain 8 = .ok (.iload_n 2, 1) := by decide +kernel
theorem dX7_setGain_9 : decode cX7_setGain 9 = .ok (.bipush 8, 2) := by decide +kernel
theorem dX7_setGain_11 : decode cX7_setGain 11 = .ok (.invokestatic 61, 3) := by decide +kernel
theorem dX7_setGain_14 : decode cX7_setGain 14 = .ok (.ifCond .eq 15, 3) := by decide +kernel
theorem dX7_setGain_17 : decode cX7_setGain 17 = .ok (.aload_n 0, 1) := by decide +kernel
theorem dX7_setGain_18 : decode cX7_setGain 18 = .ok (.getfield 49, 3) := by decide +kernel
theorem dX7_setGain_21 : decode cX7_setGain 21 = .ok (.iload_n 1, 1) := by decide +kernel
theorem dX7_setGain_22 : decode cX7_setGain 22 = .ok (.bipush 8, 2) := by decide +kernel
theorem dX7_setGain_24 : decode cX7_setGain 24 = .ok (.imul, 1) := by decide +kernel
theorem dX7_setGain_25 : decode cX7_setGain 25 = .ok (.iload_n 2, 1) := by decide +kernel
theorem dX7_setGain_26 : decode cX7_setGain 26 = .ok (.iadd, 1) := by decide +kernel
theorem dX7_setGain_27 : decode cX7_setGain 27 = .ok (.iload_n 3, 1) := by decide +kernel
theorem dX7_setGain_28 : decode cX7_setGain 28 = .ok (.iastore, 1) := by decide +kernel
theorem dX7_setGain_29 : decode cX7_setGain 29 = .ok (.return_, 1) := by decide +kernel
theorem dX7_ageOfAll_0 : decode cX7_ageOfAll 0 = .ok (.iconst 0, 1) := by decide +kernel
theorem dX7_ageOfAll_1 : decode cX7_ageOfAll 1 = .ok (.istore_n 1, 1) := by decide +kernel
theorem dX7_ageOfAll_2 : decode cX7_ageOfAll 2 = .ok (.iconst 0, 1) := by decide +kernel
theorem dX7_ageOfAll_3 : decode cX7_ageOfAll 3 = .ok (.istore_n 2, 1) := by decide +kernel
theorem dX7_ageOfAll_4 : decode cX7_ageOfAll 4 = .ok (.iload_n 2, 1) := by decide +kernel
theorem dX7_ageOfAll_5 : decode cX7_ageOfAll 5 = .ok (.aload_n 0, 1) := by decide +kernel
theorem dX7_ageOfAll_6 : decode cX7_ageOfAll 6 = .ok (.getfield 9, 3) := by decide +kernel
theorem dX7_ageOfAll_9 : decode cX7_ageOfAll 9 = .ok (.if_icmp .ge 24, 3) := by decide +kernel
theorem dX7_ageOfAll_12 : decode cX7_ageOfAll 12 = .ok (.iload_n 2, 1) := by decide +kernel
theorem dX7_ageOfAll_13 : decode cX7_ageOfAll 13 = .ok (.bipush 12, 2) := by decide +kernel
theorem dX7_ageOfAll_15 : decode cX7_ageOfAll 15 = .ok (.if_icmp .ge 18, 3) := by decide +kernel
theorem dX7_ageOfAll_18 : decode cX7_ageOfAll 18 = .ok (.iload_n 1, 1) := by decide +kernel
theorem dX7_ageOfAll_19 : decode cX7_ageOfAll 19 = .ok (.aload_n 0, 1) := by decide +kernel
theorem dX7_ageOfAll_20 : decode cX7_ageOfAll 20 = .ok (.getfield 25, 3) := by decide +kernel
theorem dX7_ageOfAll_23 : decode cX7_ageOfAll 23 = .ok (.iload_n 2, 1) := by decide +kernel
theorem dX7_ageOfAll_24 : decode cX7_ageOfAll 24 = .ok (.iaload, 1) := by decide +kernel
theorem dX7_ageOfAll_25 : decode cX7_ageOfAll 25 = .ok (.iadd, 1) := by decide +kernel
theorem dX7_ageOfAll_26 : decode cX7_ageOfAll 26 = .ok (.istore_n 1, 1) := by decide +kernel
theorem dX7_ageOfAll_27 : decode cX7_ageOfAll 27 = .ok (.iinc 2 1, 3) := by decide +kernel
theorem dX7_ageOfAll_30 : decode cX7_ageOfAll 30 = .ok (.goto (-26), 3) := by decide +kernel
theorem dX7_ageOfAll_33 : decode cX7_ageOfAll 33 = .ok (.iload_n 1, 1) := by decide +kernel
theorem dX7_ageOfAll_34 : decode cX7_ageOfAll 34 = .ok (.ireturn, 1) := by decide +kernel
theorem dX7_cocksOf_0 : decode cX7_cocksOf 0 = .ok (.iconst 0, 1) := by decide +kernel
theorem dX7_cocksOf_1 : decode cX7_cocksOf 1 = .ok (.istore_n 2, 1) := by decide +kernel
theorem dX7_cocksOf_2 : decode cX7_cocksOf 2 = .ok (.iconst 0, 1) := by decide +kernel
theorem dX7_cocksOf_3 : decode cX7_cocksOf 3 = .ok (.istore_n 3, 1) := by decide +kernel
theorem dX7_cocksOf_4 : decode cX7_cocksOf 4 = .ok (.iload_n 3, 1) := by decide +kernel
theorem dX7_cocksOf_5 : decode cX7_cocksOf 5 = .ok (.aload_n 0, 1) := by decide +kernel
theorem dX7_cocksOf_6 : decode cX7_cocksOf 6 = .ok (.getfield 9, 3) := by decide +kernel
theorem dX7_cocksOf_9 : decode cX7_cocksOf 9 = .ok (.if_icmp .ge 31, 3) := by decide +kernel
theorem dX7_cocksOf_12 : decode cX7_cocksOf 12 = .ok (.iload_n 3, 1) := by decide +kernel
theorem dX7_cocksOf_13 : decode cX7_cocksOf 13 = .ok (.bipush 12, 2) := by decide +kernel
theorem dX7_cocksOf_15 : decode cX7_cocksOf 15 = .ok (.if_icmp .ge 25, 3) := by decide +kernel
theorem dX7_cocksOf_18 : decode cX7_cocksOf 18 = .ok (.aload_n 0, 1) := by decide +kernel
theorem dX7_cocksOf_19 : decode cX7_cocksOf 19 = .ok (.getfield 28, 3) := by decide +kernel
theorem dX7_cocksOf_22 : decode cX7_cocksOf 22 = .ok (.iload_n 3, 1) := by decide +kernel
theorem dX7_cocksOf_23 : decode cX7_cocksOf 23 = .ok (.iaload, 1) := by decide +kernel
theorem dX7_cocksOf_24 : decode cX7_cocksOf 24 = .ok (.iload_n 1, 1) := by decide +kernel
theorem dX7_cocksOf_25 : decode cX7_cocksOf 25 = .ok (.if_icmp .ne 9, 3) := by decide +kernel
theorem dX7_cocksOf_28 : decode cX7_cocksOf 28 = .ok (.iload_n 2, 1) := by decide +kernel
theorem dX7_cocksOf_29 : decode cX7_cocksOf 29 = .ok (.iconst 1, 1) := by decide +kernel
theorem dX7_cocksOf_30 : decode cX7_cocksOf 30 = .ok (.iload_n 3, 1) := by decide +kernel
theorem dX7_cocksOf_31 : decode cX7_cocksOf 31 = .ok (.ishl, 1) := by decide +kernel
theorem dX7_cocksOf_32 : decode cX7_cocksOf 32 = .ok (.ior, 1) := by decide +kernel
theorem dX7_cocksOf_33 : decode cX7_cocksOf 33 = .ok (.istore_n 2, 1) := by decide +kernel
theorem dX7_cocksOf_34 : decode cX7_cocksOf 34 = .ok (.iinc 3 1, 3) := by decide +kernel
theorem dX7_cocksOf_37 : decode cX7_cocksOf 37 = .ok (.goto (-33), 3) := by decide +kernel
theorem dX7_cocksOf_40 : decode cX7_cocksOf 40 = .ok (.iload_n 2, 1) := by decide +kernel
theorem dX7_cocksOf_41 : decode cX7_cocksOf 41 = .ok (.ireturn, 1) := by decide +kernel
theorem dX7_sheltering_0 : decode cX7_sheltering 0 = .ok (.aload_n 0, 1) := by decide +kernel
theorem dX7_sheltering_1 : decode cX7_sheltering 1 = .ok (.iload_n 1, 1) := by decide +kernel
theorem dX7_sheltering_2 : decode cX7_sheltering 2 = .ok (.invokevirtual 65, 3) := by decide +kernel
theorem dX7_sheltering_5 : decode cX7_sheltering 5 = .ok (.ifCond .eq 12, 3) := by decide +kernel
theorem dX7_sheltering_8 : decode cX7_sheltering 8 = .ok (.iload_n 2, 1) := by decide +kernel
theorem dX7_sheltering_9 : decode cX7_sheltering 9 = .ok (.bipush 8, 2) := by decide +kernel
theorem dX7_sheltering_11 : decode cX7_sheltering 11 = .ok (.invokestatic 61, 3) := by decide +kernel
theorem dX7_sheltering_14 : decode cX7_sheltering 14 = .ok (.ifCond .ne 5, 3) := by decide +kernel
theorem dX7_sheltering_17 : decode cX7_sheltering 17 = .ok (.iconst 0, 1) := by decide +kernel
theorem dX7_sheltering_18 : decode cX7_sheltering 18 = .ok (.ireturn, 1) := by decide +kernel
theorem dX7_sheltering_19 : decode cX7_sheltering 19 = .ok (.iconst 0, 1) := by decide +kernel
theorem dX7_sheltering_20 : decode cX7_sheltering 20 = .ok (.istore 4, 2) := by decide +kernel
theorem dX7_sheltering_22 : decode cX7_sheltering 22 = .ok (.iconst 0, 1) := by decide +kernel
theorem dX7_sheltering_23 : decode cX7_sheltering 23 = .ok (.istore 5, 2) := by decide +kernel
theorem dX7_sheltering_25 : decode cX7_sheltering 25 = .ok (.iload 5, 2) := by decide +kernel
theorem dX7_sheltering_27 : decode cX7_sheltering 27 = .ok (.aload_n 0, 1) := by decide +kernel
theorem dX7_sheltering_28 : decode cX7_sheltering 28 = .ok (.getfield 37, 3) := by decide +kernel
theorem dX7_sheltering_31 : decode cX7_sheltering 31 = .ok (.if_icmp .ge 75, 3) := by decide +kernel
theorem dX7_sheltering_34 : decode cX7_sheltering 34 = .ok (.iload 5, 2) := by decide +kernel
theorem dX7_sheltering_36 : decode cX7_sheltering 36 = .ok (.bipush 12, 2) := by decide +kernel
theorem dX7_sheltering_38 : decode cX7_sheltering 38 = .ok (.if_icmp .ge 68, 3) := by decide +kernel
theorem dX7_sheltering_41 : decode cX7_sheltering 41 = .ok (.iload_n 3, 1) := by decide +kernel
theorem dX7_sheltering_42 : decode cX7_sheltering 42 = .ok (.iload 5, 2) := by decide +kernel
theorem dX7_sheltering_44 : decode cX7_sheltering 44 = .ok (.ishr, 1) := by decide +kernel
theorem dX7_sheltering_45 : decode cX7_sheltering 45 = .ok (.iconst 1, 1) := by decide +kernel
