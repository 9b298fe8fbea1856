theorem ic_m8 : Int32.ofInt (-8) = (-8 : Int32) := by decide
theorem ic_m2 : Int32.ofInt (-2) = (-2 : Int32) := by decide
theorem ic_m1 : Int32.ofInt (-1) = (-1 : Int32) := by decide
theorem ic_0 : Int32.ofInt (0) = (0 : Int32) := by decide
theorem ic_1 : Int32.ofInt (1) = (1 : Int32) := by decide
theorem ic_2 : Int32.ofInt (2) = (2 : Int32) := by decide
theorem ic_3 : Int32.ofInt (3) = (3 : Int32) := by decide
theorem ic_4 : Int32.ofInt (4) = (4 : Int32) := by decide
theorem ic_5 : Int32.ofInt (5) = (5 : Int32) := by decide
theorem ib_m24 : (Int8.ofInt (-24)).toInt32 = (-24 : Int32) := by decide
theorem ib_m23 : (Int8.ofInt (-23)).toInt32 = (-23 : Int32) := by decide
theorem ib_m22 : (Int8.ofInt (-22)).toInt32 = (-22 : Int32) := by decide
theorem ib_m21 : (Int8.ofInt (-21)).toInt32 = (-21 : Int32) := by decide
theorem ib_m20 : (Int8.ofInt (-20)).toInt32 = (-20 : Int32) := by decide
theorem ib_m3 : (Int8.ofInt (-3)).toInt32 = (-3 : Int32) := by decide
theorem ib_m2 : (Int8.ofInt (-2)).toInt32 = (-2 : Int32) := by decide
theorem ib_6 : (Int8.ofInt (6)).toInt32 = (6 : Int32) := by decide
theorem ib_7 : (Int8.ofInt (7)).toInt32 = (7 : Int32) := by decide
theorem ib_8 : (Int8.ofInt (8)).toInt32 = (8 : Int32) := by decide
theorem ib_9 : (Int8.ofInt (9)).toInt32 = (9 : Int32) := by decide
theorem ib_10 : (Int8.ofInt (10)).toInt32 = (10 : Int32) := by decide
theorem ib_11 : (Int8.ofInt (11)).toInt32 = (11 : Int32) := by decide
theorem ib_12 : (Int8.ofInt (12)).toInt32 = (12 : Int32) := by decide
theorem ib_13 : (Int8.ofInt (13)).toInt32 = (13 : Int32) := by decide
theorem ib_14 : (Int8.ofInt (14)).toInt32 = (14 : Int32) := by decide
theorem ib_15 : (Int8.ofInt (15)).toInt32 = (15 : Int32) := by decide
theorem ib_16 : (Int8.ofInt (16)).toInt32 = (16 : Int32) := by decide
theorem ib_20 : (Int8.ofInt (20)).toInt32 = (20 : Int32) := by decide
theorem ib_21 : (Int8.ofInt (21)).toInt32 = (21 : Int32) := by decide
theorem ib_22 : (Int8.ofInt (22)).toInt32 = (22 : Int32) := by decide
theorem ib_23 : (Int8.ofInt (23)).toInt32 = (23 : Int32) := by decide
theorem ib_24 : (Int8.ofInt (24)).toInt32 = (24 : Int32) := by decide
theorem ib_25 : (Int8.ofInt (25)).toInt32 = (25 : Int32) := by decide
theorem ib_32 : (Int8.ofInt (32)).toInt32 = (32 : Int32) := by decide
theorem ib_33 : (Int8.ofInt (33)).toInt32 = (33 : Int32) := by decide
theorem ib_34 : (Int8.ofInt (34)).toInt32 = (34 : Int32) := by decide
theorem ib_35 : (Int8.ofInt (35)).toInt32 = (35 : Int32) := by decide
theorem ib_40 : (Int8.ofInt (40)).toInt32 = (40 : Int32) := by decide
theorem ib_42 : (Int8.ofInt (42)).toInt32 = (42 : Int32) := by decide
theorem ib_43 : (Int8.ofInt (43)).toInt32 = (43 : Int32) := by decide
theorem ib_45 : (Int8.ofInt (45)).toInt32 = (45 : Int32) := by decide
theorem ib_47 : (Int8.ofInt (47)).toInt32 = (47 : Int32) := by decide
theorem ib_48 : (Int8.ofInt (48)).toInt32 = (48 : Int32) := by decide
theorem ib_57 : (Int8.ofInt (57)).toInt32 = (57 : Int32) := by decide
theorem ib_59 : (Int8.ofInt (59)).toInt32 = (59 : Int32) := by decide
theorem ib_60 : (Int8.ofInt (60)).toInt32 = (60 : Int32) := by decide
theorem ib_61 : (Int8.ofInt (61)).toInt32 = (61 : Int32) := by decide
theorem ib_62 : (Int8.ofInt (62)).toInt32 = (62 : Int32) := by decide
theorem ib_63 : (Int8.ofInt (63)).toInt32 = (63 : Int32) := by decide
theorem ib_64 : (Int8.ofInt (64)).toInt32 = (64 : Int32) := by decide
theorem ib_72 : (Int8.ofInt (72)).toInt32 = (72 : Int32) := by decide
theorem ib_88 : (Int8.ofInt (88)).toInt32 = (88 : Int32) := by decide
theorem ib_91 : (Int8.ofInt (91)).toInt32 = (91 : Int32) := by decide
theorem ib_93 : (Int8.ofInt (93)).toInt32 = (93 : Int32) := by decide
theorem ib_97 : (Int8.ofInt (97)).toInt32 = (97 : Int32) := by decide
theorem ib_99 : (Int8.ofInt (99)).toInt32 = (99 : Int32) := by decide
theorem ib_122 : (Int8.ofInt (122)).toInt32 = (122 : Int32) := by decide
theorem ib_124 : (Int8.ofInt (124)).toInt32 = (124 : Int32) := by decide
theorem is_156 : (Int16.ofInt (156)).toInt32 = (156 : Int32) := by decide
theorem is_255 : (Int16.ofInt (255)).toInt32 = (255 : Int32) := by decide
theorem is_288 : (Int16.ofInt (288)).toInt32 = (288 : Int32) := by decide
theorem is_366 : (Int16.ofInt (366)).toInt32 = (366 : Int32) := by decide
theorem is_400 : (Int16.ofInt (400)).toInt32 = (400 : Int32) := by decide
theorem is_401 : (Int16.ofInt (401)).toInt32 = (401 : Int32) := by decide
theorem is_624 : (Int16.ofInt (624)).toInt32 = (624 : Int32) := by decide
theorem is_768 : (Int16.ofInt (768)).toInt32 = (768 : Int32) := by decide
theorem is_2400 : (Int16.ofInt (2400)).toInt32 = (2400 : Int32) := by decide
theorem is_4096 : (Int16.ofInt (4096)).toInt32 = (4096 : Int32) := by decide
theorem is_9999 : (Int16.ofInt (9999)).toInt32 = (9999 : Int32) := by decide
theorem tw_0 : (Cond.selects RX6 yX6_cutOne yX6_cutOne : Cond) ∈ tbl := tbl_mem 0 rfl rfl
theorem tw_1 : (Cond.selects RX6 yX6_cutNumber yX6_cutNumber : Cond) ∈ tbl := tbl_mem 1 rfl rfl
theorem tw_2 : (Cond.selects RX6 yX6_add yX6_add : Cond) ∈ tbl := tbl_mem 2 rfl rfl
theorem tw_3 : (Cond.selects RX6 yX6_cutWord yX6_cutWord : Cond) ∈ tbl := tbl_mem 3 rfl rfl
theorem tw_4 : (Cond.selects RX6 yX6_cutSign yX6_cutSign : Cond) ∈ tbl := tbl_mem 4 rfl rfl
theorem tw_5 : (Cond.selects RX8 yX8_readsClause yX8_readsClause : Cond) ∈ tbl := tbl_mem 5 rfl rfl
theorem tw_6 : (Cond.selects RX8 yX8_readsCock yX8_readsCock : Cond) ∈ tbl := tbl_mem 6 rfl rfl
theorem tw_7 : (Cond.selects RX8 yX8_readsInto yX8_readsInto : Cond) ∈ tbl := tbl_mem 7 rfl rfl
theorem tw_8 : (Cond.selects RX8 yX8_readsNumber yX8_readsNumber : Cond) ∈ tbl := tbl_mem 8 rfl rfl
theorem tw_9 : (Cond.selects RX8 yX8_readsTree yX8_readsTree : Cond) ∈ tbl := tbl_mem 9 rfl rfl
theorem tw_10 : (Cond.selects RX8 yX8_readsWorth yX8_readsWorth : Cond) ∈ tbl := tbl_mem 10 rfl rfl
theorem tw_11 : (Cond.selects RX3 yX3_readsSum yX3_readsSum : Cond) ∈ tbl := tbl_mem 11 rfl rfl
theorem tw_12 : (Cond.selects RX3 yX3_readsValue yX3_readsValue : Cond) ∈ tbl := tbl_mem 12 rfl rfl
theorem tw_13 : (Cond.selects RX3 yX3_addIfThere yX3_addIfThere : Cond) ∈ tbl := tbl_mem 13 rfl rfl
theorem tw_14 : (Cond.selects RX3 yX3_takes yX3_takes : Cond) ∈ tbl := tbl_mem 14 rfl rfl
theorem tw_15 : (Cond.selects RX3 yX3_readsTest yX3_readsTest : Cond) ∈ tbl := tbl_mem 15 rfl rfl
theorem tw_16 : (Cond.selects RX3 yX3_readsFact yX3_readsFact : Cond) ∈ tbl := tbl_mem 16 rfl rfl
theorem tw_17 : (Cond.selects RX3 yX3_readsComparison yX3_readsComparison : Cond) ∈ tbl := tbl_mem 17 rfl rfl
theorem tw_18 : (Cond.selects RX10 yX10_isThere yX10_isThere : Cond) ∈ tbl := tbl_mem 18 rfl rfl
theorem tw_19 : (Cond.selects RX10 yX10_canBlow yX10_canBlow : Cond) ∈ tbl := tbl_mem 19 rfl rfl
theorem tw_20 : (Cond.selects RX10 yX10_voteOf yX10_voteOf : Cond) ∈ tbl := tbl_mem 20 rfl rfl
theorem tw_21 : (Cond.selects RX1 yX1_tally yX1_tally : Cond) ∈ tbl := tbl_mem 21 rfl rfl
theorem tw_22 : (Cond.selects RX1 yX1_leader yX1_leader : Cond) ∈ tbl := tbl_mem 22 rfl rfl
theorem tw_23 : (Cond.selects RX1 yX1_pointOfOldest yX1_pointOfOldest : Cond) ∈ tbl := tbl_mem 23 rfl rfl
theorem tw_24 : (Cond.selects RX1 yX1_middle yX1_middle : Cond) ∈ tbl := tbl_mem 24 rfl rfl
theorem tw_25 : (Cond.selects RX1 yX1_lastLeft yX1_lastLeft : Cond) ∈ tbl := tbl_mem 25 rfl rfl
theorem tw_26 : (Cond.selects RX1 yX1_strikeOut yX1_strikeOut : Cond) ∈ tbl := tbl_mem 26 rfl rfl
theorem tw_27 : (Cond.selects RX10 yX10_canBuy yX10_canBuy : Cond) ∈ tbl := tbl_mem 27 rfl rfl
theorem tw_28 : (Cond.selects RX4 yX4_listFree yX4_listFree : Cond) ∈ tbl := tbl_mem 28 rfl rfl
theorem tw_29 : (Cond.selects RX4 yX4_addFree yX4_addFree : Cond) ∈ tbl := tbl_mem 29 rfl rfl
theorem tw_30 : (Cond.selects RX4 yX4_flip yX4_flip : Cond) ∈ tbl := tbl_mem 30 rfl rfl
theorem tw_31 : (Cond.selects RX4 yX4_cocksOf yX4_cocksOf : Cond) ∈ tbl := tbl_mem 31 rfl rfl
theorem tw_32 : (Cond.selects RX10 yX10_isExplained yX10_isExplained : Cond) ∈ tbl := tbl_mem 32 rfl rfl
theorem tw_33 : (Cond.selects RX10 yX10_unexplainedBy yX10_unexplainedBy : Cond) ∈ tbl := tbl_mem 33 rfl rfl
theorem tw_34 : (Cond.selects RX10 yX10_voteAfter yX10_voteAfter : Cond) ∈ tbl := tbl_mem 34 rfl rfl
theorem tw_35 : (Cond.selects RX0 yX0_evening yX0_evening : Cond) ∈ tbl := tbl_mem 35 rfl rfl
theorem tw_36 : (Cond.selects RX11 yX11_four yX11_four : Cond) ∈ tbl := tbl_mem 36 rfl rfl
theorem tw_37 : (Cond.selects RX11 yX11_readsAll yX11_readsAll : Cond) ∈ tbl := tbl_mem 37 rfl rfl
theorem tw_38 : (Cond.selects RX11 yX11_clauseHere yX11_clauseHere : Cond) ∈ tbl := tbl_mem 38 rfl rfl
theorem tw_39 : (Cond.selects RX11 yX11_see yX11_see : Cond) ∈ tbl := tbl_mem 39 rfl rfl
theorem tw_40 : (Cond.selects RX11 yX11_isWord yX11_isWord : Cond) ∈ tbl := tbl_mem 40 rfl rfl
theorem tw_41 : (Cond.selects RX11 yX11_isLetter yX11_isLetter : Cond) ∈ tbl := tbl_mem 41 rfl rfl
theorem tw_42 : (Cond.selects RX11 yX11_fails yX11_fails : Cond) ∈ tbl := tbl_mem 42 rfl rfl
theorem tw_43 : (Cond.selects RX11 yX11_isTurnHere yX11_isTurnHere : Cond) ∈ tbl := tbl_mem 43 rfl rfl
theorem tw_44 : (Cond.selects RX11 yX11_passWord yX11_passWord : Cond) ∈ tbl := tbl_mem 44 rfl rfl
theorem tw_45 : (Cond.selects RX11 yX11_sum yX11_sum : Cond) ∈ tbl := tbl_mem 45 rfl rfl
theorem tw_46 : (Cond.selects RX11 yX11_term yX11_term : Cond) ∈ tbl := tbl_mem 46 rfl rfl
theorem tw_47 : (Cond.selects RX11 yX11_value yX11_value : Cond) ∈ tbl := tbl_mem 47 rfl rfl
theorem tw_48 : (Cond.selects RX11 yX11_isDigit yX11_isDigit : Cond) ∈ tbl := tbl_mem 48 rfl rfl
theorem tw_49 : (Cond.selects RX11 yX11_numberHere yX11_numberHere : Cond) ∈ tbl := tbl_mem 49 rfl rfl
theorem tw_50 : (Cond.selects RX11 yX11_makes yX11_makes : Cond) ∈ tbl := tbl_mem 50 rfl rfl
theorem tw_51 : (Cond.selects RX11 yX11_puts yX11_puts : Cond) ∈ tbl := tbl_mem 51 rfl rfl
theorem tw_52 : (Cond.selects RX11 yX11_wordHere yX11_wordHere : Cond) ∈ tbl := tbl_mem 52 rfl rfl
theorem tw_53 : (Cond.selects RX11 yX11_takesWord yX11_takesWord : Cond) ∈ tbl := tbl_mem 53 rfl rfl
theorem tw_54 : (Cond.selects RX11 yX11_tested yX11_tested : Cond) ∈ tbl := tbl_mem 54 rfl rfl
theorem tw_55 : (Cond.selects RX11 yX11_fact yX11_fact : Cond) ∈ tbl := tbl_mem 55 rfl rfl
theorem tw_56 : (Cond.selects RX11 yX11_opens yX11_opens : Cond) ∈ tbl := tbl_mem 56 rfl rfl
theorem tw_57 : (Cond.selects RX11 yX11_compare yX11_compare : Cond) ∈ tbl := tbl_mem 57 rfl rfl
theorem tw_58 : (Cond.selects RX11 yX11_closes yX11_closes : Cond) ∈ tbl := tbl_mem 58 rfl rfl
theorem tw_59 : (Cond.selects RX11 yX11_settles yX11_settles : Cond) ∈ tbl := tbl_mem 59 rfl rfl
theorem tw_60 : (Cond.selects RX11 yX11_isInside yX11_isInside : Cond) ∈ tbl := tbl_mem 60 rfl rfl
theorem tw_61 : (Cond.selects RX11 yX11_isCockHere yX11_isCockHere : Cond) ∈ tbl := tbl_mem 61 rfl rfl
theorem tw_62 : (Cond.selects RX11 yX11_isTreeHere yX11_isTreeHere : Cond) ∈ tbl := tbl_mem 62 rfl rfl
theorem tw_63 : (Cond.selects RX11 yX11_isWorthHere yX11_isWorthHere : Cond) ∈ tbl := tbl_mem 63 rfl rfl
theorem tw_64 : (Cond.selects RX11 yX11_isCock yX11_isCock : Cond) ∈ tbl := tbl_mem 64 rfl rfl
theorem tw_65 : (Cond.selects RX11 yX11_cockOf yX11_cockOf : Cond) ∈ tbl := tbl_mem 65 rfl rfl
theorem tw_66 : (Cond.selects RX11 yX11_isTree yX11_isTree : Cond) ∈ tbl := tbl_mem 66 rfl rfl
theorem tw_67 : (Cond.selects RX11 yX11_treeOf yX11_treeOf : Cond) ∈ tbl := tbl_mem 67 rfl rfl
theorem tw_68 : (Cond.selects RX11 yX11_leeOf yX11_leeOf : Cond) ∈ tbl := tbl_mem 68 rfl rfl
theorem tw_69 : (Cond.selects RX11 yX11_canBlow yX11_canBlow : Cond) ∈ tbl := tbl_mem 69 rfl rfl
theorem tw_70 : (Cond.selects RX11 yX11_isLaw yX11_isLaw : Cond) ∈ tbl := tbl_mem 70 rfl rfl
theorem tw_71 : (Cond.selects RX11 yX11_goesTo yX11_goesTo : Cond) ∈ tbl := tbl_mem 71 rfl rfl
theorem tw_72 : (Cond.selects RX11 yX11_turnsBy yX11_turnsBy : Cond) ∈ tbl := tbl_mem 72 rfl rfl
theorem tw_73 : (Cond.selects RX11 yX11_reckons yX11_reckons : Cond) ∈ tbl := tbl_mem 73 rfl rfl
theorem tw_74 : (Cond.selects RX11 yX11_push yX11_push : Cond) ∈ tbl := tbl_mem 74 rfl rfl
theorem tw_75 : (Cond.selects RX11 yX11_pop yX11_pop : Cond) ∈ tbl := tbl_mem 75 rfl rfl
theorem tw_76 : (Cond.selects RX11 yX11_bendCost yX11_bendCost : Cond) ∈ tbl := tbl_mem 76 rfl rfl
theorem tw_77 : (Cond.selects RX11 yX11_asTheyAre yX11_asTheyAre : Cond) ∈ tbl := tbl_mem 77 rfl rfl
theorem tw_78 : (Cond.selects RX11 yX11_votes yX11_votes : Cond) ∈ tbl := tbl_mem 78 rfl rfl
theorem tw_79 : (Cond.selects RX11 yX11_byMost yX11_byMost : Cond) ∈ tbl := tbl_mem 79 rfl rfl
theorem tw_80 : (Cond.selects RX11 yX11_counts yX11_counts : Cond) ∈ tbl := tbl_mem 80 rfl rfl
theorem tw_81 : (Cond.selects RX11 yX11_greatest yX11_greatest : Cond) ∈ tbl := tbl_mem 81 rfl rfl
theorem tw_82 : (Cond.selects RX11 yX11_byMiddle yX11_byMiddle : Cond) ∈ tbl := tbl_mem 82 rfl rfl
theorem tw_83 : (Cond.selects RX11 yX11_byStriking yX11_byStriking : Cond) ∈ tbl := tbl_mem 83 rfl rfl
theorem tw_84 : (Cond.selects RX11 yX11_pointsSaid yX11_pointsSaid : Cond) ∈ tbl := tbl_mem 84 rfl rfl
theorem tw_85 : (Cond.selects RX11 yX11_worst yX11_worst : Cond) ∈ tbl := tbl_mem 85 rfl rfl
theorem tw_86 : (Cond.selects RX11 yX11_nearest yX11_nearest : Cond) ∈ tbl := tbl_mem 86 rfl rfl
theorem tw_87 : (Cond.selects RX11 yX11_canBuy yX11_canBuy : Cond) ∈ tbl := tbl_mem 87 rfl rfl
theorem tw_88 : (Cond.selects RX11 yX11_isSet yX11_isSet : Cond) ∈ tbl := tbl_mem 88 rfl rfl
theorem tw_89 : (Cond.selects RX11 yX11_keepsRow yX11_keepsRow : Cond) ∈ tbl := tbl_mem 89 rfl rfl
theorem tw_90 : (Cond.selects RX11 yX11_cheapestSet yX11_cheapestSet : Cond) ∈ tbl := tbl_mem 90 rfl rfl
theorem tw_91 : (Cond.selects RX11 yX11_bends yX11_bends : Cond) ∈ tbl := tbl_mem 91 rfl rfl
theorem tw_92 : (Cond.selects RX11 yX11_canExplain yX11_canExplain : Cond) ∈ tbl := tbl_mem 92 rfl rfl
theorem tw_93 : (Cond.selects RX11 yX11_explains yX11_explains : Cond) ∈ tbl := tbl_mem 93 rfl rfl
theorem tw_94 : (Cond.selects RX11 yX11_goes yX11_goes : Cond) ∈ tbl := tbl_mem 94 rfl rfl
theorem tw_96 : (Cond.initialized RX10 : Cond) ∈ tbl := tbl_t1 1 rfl rfl
theorem tw_97 : (Cond.initialized RX5 : Cond) ∈ tbl := tbl_t1 2 rfl rfl
theorem tw_98 : (Cond.initialized RX6 : Cond) ∈ tbl := tbl_t1 3 rfl rfl
theorem tw_99 : (Cond.initialized RX8 : Cond) ∈ tbl := tbl_t1 4 rfl rfl
theorem tw_100 : (Cond.initialized RX3 : Cond) ∈ tbl := tbl_t1 5 rfl rfl
theorem tw_101 : (Cond.initialized RX2 : Cond) ∈ tbl := tbl_t1 6 rfl rfl
theorem tw_102 : (Cond.initialized RX7 : Cond) ∈ tbl := tbl_t1 7 rfl rfl
theorem tw_103 : (Cond.initialized RX9 : Cond) ∈ tbl := tbl_t1 8 rfl rfl
theorem tw_104 : (Cond.initialized RX1 : Cond) ∈ tbl := tbl_t1 9 rfl rfl
theorem tw_105 : (Cond.initialized RX4 : Cond) ∈ tbl := tbl_t1 10 rfl rfl
theorem tw_106 : (Cond.initialized RX0 : Cond) ∈ tbl := tbl_t1 11 rfl rfl
theorem tw_107 : (Cond.initialized RX11 : Cond) ∈ tbl := tbl_t1 12 rfl rfl
theorem tw_114 : (Cond.initialized RJ6 : Cond) ∈ tbl := tbl_t1 19 rfl rfl
theorem tw_118 : (Cond.instanceMethod yX10_init : Cond) ∈ tbl := tbl_t1 23 rfl rfl
theorem tw_119 : (Cond.code yX10_init cX10_init 2 none : Cond) ∈ tbl := tbl_t1 24 rfl rfl
theorem tw_120 : (Cond.methodLink RX10 1 Lib.objectInit : Cond) ∈ tbl := tbl_t1 25 rfl rfl
theorem tw_126 : (Cond.instanceMethod yX5_init : Cond) ∈ tbl := tbl_t1 31 rfl rfl
theorem tw_127 : (Cond.code yX5_init cX5_init 1 none : Cond) ∈ tbl := tbl_t1 32 rfl rfl
theorem tw_128 : (Cond.methodLink RX5 3 Lib.objectInit : Cond) ∈ tbl := tbl_t1 33 rfl rfl
theorem tw_142 : (Cond.instanceMethod yX6_init : Cond) ∈ tbl := tbl_t1 47 rfl rfl
theorem tw_143 : (Cond.code yX6_init cX6_init 1 none : Cond) ∈ tbl := tbl_t1 48 rfl rfl
theorem tw_144 : (Cond.methodLink RX6 3 Lib.objectInit : Cond) ∈ tbl := tbl_t1 49 rfl rfl
theorem tw_167 : (Cond.methodLink RX10 25 yX8_init : Cond) ∈ tbl := tbl_t1 72 rfl rfl
theorem tw_168 : (Cond.instanceMethod yX8_init : Cond) ∈ tbl := tbl_t1 73 rfl rfl
theorem tw_169 : (Cond.code yX8_init cX8_init 2 none : Cond) ∈ tbl := tbl_t1 74 rfl rfl
theorem tw_170 : (Cond.methodLink RX8 3 Lib.objectInit : Cond) ∈ tbl := tbl_t1 75 rfl rfl
theorem tw_180 : (Cond.methodLink RX10 34 yX3_init : Cond) ∈ tbl := tbl_t1 85 rfl rfl
theorem tw_181 : (Cond.instanceMethod yX3_init : Cond) ∈ tbl := tbl_t1 86 rfl rfl
theorem tw_182 : (Cond.code yX3_init cX3_init 2 none : Cond) ∈ tbl := tbl_t1 87 rfl rfl
theorem tw_183 : (Cond.methodLink RX3 3 Lib.objectInit : Cond) ∈ tbl := tbl_t1 88 rfl rfl
theorem tw_187 : (Cond.instanceMethod yX2_init : Cond) ∈ tbl := tbl_t1 92 rfl rfl
theorem tw_188 : (Cond.code yX2_init cX2_init 1 none : Cond) ∈ tbl := tbl_t1 93 rfl rfl
theorem tw_189 : (Cond.methodLink RX2 3 Lib.objectInit : Cond) ∈ tbl := tbl_t1 94 rfl rfl
theorem tw_207 : (Cond.classLink RX10 39 RX7 : Cond) ∈ tbl := tbl_t1 112 rfl rfl
theorem tw_210 : (Cond.instanceMethod yX7_init : Cond) ∈ tbl := tbl_t1 115 rfl rfl
theorem tw_211 : (Cond.code yX7_init cX7_init 1 none : Cond) ∈ tbl := tbl_t1 116 rfl rfl
theorem tw_212 : (Cond.methodLink RX7 3 Lib.objectInit : Cond) ∈ tbl := tbl_t1 117 rfl rfl
theorem tw_294 : (Cond.classLink RX10 53 RX2 : Cond) ∈ tbl := tbl_t1 199 rfl rfl
theorem tw_299 : (Cond.instanceMethod yX9_init : Cond) ∈ tbl := tbl_t1 204 rfl rfl
theorem tw_300 : (Cond.code yX9_init cX9_init 1 none : Cond) ∈ tbl := tbl_t1 205 rfl rfl
theorem tw_301 : (Cond.methodLink RX9 3 Lib.objectInit : Cond) ∈ tbl := tbl_t1 206 rfl rfl
theorem tw_314 : (Cond.instanceMethod yX1_init : Cond) ∈ tbl := tbl_t1 219 rfl rfl
theorem tw_315 : (Cond.code yX1_init cX1_init 1 none : Cond) ∈ tbl := tbl_t1 220 rfl rfl
theorem tw_316 : (Cond.methodLink RX1 3 Lib.objectInit : Cond) ∈ tbl := tbl_t1 221 rfl rfl
theorem tw_338 : (Cond.methodLink RX10 79 yX4_init : Cond) ∈ tbl := tbl_t2 3 rfl rfl
theorem tw_339 : (Cond.instanceMethod yX4_init : Cond) ∈ tbl := tbl_t2 4 rfl rfl
theorem tw_340 : (Cond.code yX4_init cX4_init 2 none : Cond) ∈ tbl := tbl_t2 5 rfl rfl
theorem tw_341 : (Cond.methodLink RX4 3 Lib.objectInit : Cond) ∈ tbl := tbl_t2 6 rfl rfl
theorem tw_377 : (Cond.methodLink RX10 88 yX0_init : Cond) ∈ tbl := tbl_t2 42 rfl rfl
theorem tw_378 : (Cond.instanceMethod yX0_init : Cond) ∈ tbl := tbl_t2 43 rfl rfl
theorem tw_379 : (Cond.code yX0_init cX0_init 4 none : Cond) ∈ tbl := tbl_t2 44 rfl rfl
theorem tw_380 : (Cond.methodLink RX0 3 Lib.objectInit : Cond) ∈ tbl := tbl_t2 45 rfl rfl
theorem tw_455 : (Cond.instanceMethod yX10_feed : Cond) ∈ tbl := tbl_t2 120 rfl rfl
theorem tw_456 : (Cond.selects RX10 yX10_feed yX10_feed : Cond) ∈ tbl := tbl_t2 121 rfl rfl
theorem tw_457 : (Cond.code yX10_feed cX10_feed 6 (some .int) : Cond) ∈ tbl := tbl_t2 122 rfl rfl
theorem tw_458 : (Cond.methodLink RX10 103 yX5_append : Cond) ∈ tbl := tbl_t2 123 rfl rfl
theorem tw_459 : (Cond.instanceMethod yX5_append : Cond) ∈ tbl := tbl_t2 124 rfl rfl
theorem tw_460 : (Cond.selects RX5 yX5_append yX5_append : Cond) ∈ tbl := tbl_t2 125 rfl rfl
theorem tw_461 : (Cond.code yX5_append cX5_append 3 none : Cond) ∈ tbl := tbl_t2 126 rfl rfl
theorem tw_463 : (Cond.instanceMethod yX10_end : Cond) ∈ tbl := tbl_t2 128 rfl rfl
theorem tw_464 : (Cond.selects RX10 yX10_end yX10_end : Cond) ∈ tbl := tbl_t2 129 rfl rfl
theorem tw_465 : (Cond.code yX10_end cX10_end 2 (some .int) : Cond) ∈ tbl := tbl_t2 130 rfl rfl
theorem tw_467 : (Cond.instanceMethod yX10_valley : Cond) ∈ tbl := tbl_t2 132 rfl rfl
theorem tw_468 : (Cond.selects RX10 yX10_valley yX10_valley : Cond) ∈ tbl := tbl_t2 133 rfl rfl
theorem tw_469 : (Cond.code yX10_valley cX10_valley 1 (some .int) : Cond) ∈ tbl := tbl_t2 134 rfl rfl
theorem tw_470 : (Cond.methodLink RX10 107 yX6_cut : Cond) ∈ tbl := tbl_t2 135 rfl rfl
theorem tw_471 : (Cond.instanceMethod yX6_cut : Cond) ∈ tbl := tbl_t2 136 rfl rfl
theorem tw_472 : (Cond.selects RX6 yX6_cut yX6_cut : Cond) ∈ tbl := tbl_t2 137 rfl rfl
theorem tw_473 : (Cond.code yX6_cut cX6_cut 4 none : Cond) ∈ tbl := tbl_t2 138 rfl rfl
theorem tw_474 : (Cond.methodLink RX6 36 yX6_cutOne : Cond) ∈ tbl := tbl_t2 139 rfl rfl
theorem tw_476 : (Cond.instanceMethod yX6_cutOne : Cond) ∈ tbl := tbl_t2 141 rfl rfl
theorem tw_477 : (Cond.code yX6_cutOne cX6_cutOne 4 (some .int) : Cond) ∈ tbl := tbl_t2 142 rfl rfl
theorem tw_478 : (Cond.methodLink RX6 44 yX5_at : Cond) ∈ tbl := tbl_t2 143 rfl rfl
theorem tw_479 : (Cond.instanceMethod yX5_at : Cond) ∈ tbl := tbl_t2 144 rfl rfl
theorem tw_480 : (Cond.selects RX5 yX5_at yX5_at : Cond) ∈ tbl := tbl_t2 145 rfl rfl
theorem tw_481 : (Cond.code yX5_at cX5_at 2 (some .int) : Cond) ∈ tbl := tbl_t2 146 rfl rfl
theorem tw_482 : (Cond.methodLink RX6 48 yX6_isDigit : Cond) ∈ tbl := tbl_t2 147 rfl rfl
theorem tw_483 : (Cond.static yX6_isDigit : Cond) ∈ tbl := tbl_t2 148 rfl rfl
theorem tw_484 : (Cond.code yX6_isDigit cX6_isDigit 1 (some .boolean) : Cond) ∈ tbl := tbl_t2 149 rfl rfl
theorem tw_485 : (Cond.methodLink RX6 52 yX6_cutNumber : Cond) ∈ tbl := tbl_t2 150 rfl rfl
theorem tw_487 : (Cond.instanceMethod yX6_cutNumber : Cond) ∈ tbl := tbl_t2 152 rfl rfl
theorem tw_488 : (Cond.code yX6_cutNumber cX6_cutNumber 6 (some .int) : Cond) ∈ tbl := tbl_t2 153 rfl rfl
theorem tw_489 : (Cond.methodLink RX6 40 yX6_add : Cond) ∈ tbl := tbl_t2 154 rfl rfl
theorem tw_491 : (Cond.instanceMethod yX6_add : Cond) ∈ tbl := tbl_t2 156 rfl rfl
theorem tw_492 : (Cond.code yX6_add cX6_add 4 none : Cond) ∈ tbl := tbl_t2 157 rfl rfl
theorem tw_493 : (Cond.methodLink RX6 55 yX6_isLetter : Cond) ∈ tbl := tbl_t2 158 rfl rfl
theorem tw_494 : (Cond.static yX6_isLetter : Cond) ∈ tbl := tbl_t2 159 rfl rfl
theorem tw_495 : (Cond.code yX6_isLetter cX6_isLetter 1 (some .boolean) : Cond) ∈ tbl := tbl_t2 160 rfl rfl
theorem tw_496 : (Cond.methodLink RX6 58 yX6_cutWord : Cond) ∈ tbl := tbl_t2 161 rfl rfl
theorem tw_498 : (Cond.instanceMethod yX6_cutWord : Cond) ∈ tbl := tbl_t2 163 rfl rfl
theorem tw_499 : (Cond.code yX6_cutWord cX6_cutWord 5 (some .int) : Cond) ∈ tbl := tbl_t2 164 rfl rfl
theorem tw_500 : (Cond.methodLink RX6 64 yX6_wordKind : Cond) ∈ tbl := tbl_t2 165 rfl rfl
theorem tw_501 : (Cond.static yX6_wordKind : Cond) ∈ tbl := tbl_t2 166 rfl rfl
theorem tw_502 : (Cond.code yX6_wordKind cX6_wordKind 4 (some .int) : Cond) ∈ tbl := tbl_t2 167 rfl rfl
theorem tw_514 : (Cond.methodLink RX6 78 yX6_isWord : Cond) ∈ tbl := tbl_t2 179 rfl rfl
theorem tw_515 : (Cond.static yX6_isWord : Cond) ∈ tbl := tbl_t2 180 rfl rfl
theorem tw_516 : (Cond.code yX6_isWord cX6_isWord 6 (some .boolean) : Cond) ∈ tbl := tbl_t2 181 rfl rfl
theorem tw_555 : (Cond.methodLink RX6 61 yX6_cutSign : Cond) ∈ tbl := tbl_t2 220 rfl rfl
theorem tw_557 : (Cond.instanceMethod yX6_cutSign : Cond) ∈ tbl := tbl_t2 222 rfl rfl
theorem tw_558 : (Cond.code yX6_cutSign cX6_cutSign 5 (some .int) : Cond) ∈ tbl := tbl_t2 223 rfl rfl
theorem tw_559 : (Cond.methodLink RX6 68 yX6_signKind : Cond) ∈ tbl := tbl_t2 224 rfl rfl
theorem tw_560 : (Cond.static yX6_signKind : Cond) ∈ tbl := tbl_t2 225 rfl rfl
theorem tw_561 : (Cond.code yX6_signKind cX6_signKind 1 (some .int) : Cond) ∈ tbl := tbl_t2 226 rfl rfl
theorem tw_562 : (Cond.methodLink RX10 111 yX8_reads : Cond) ∈ tbl := tbl_t2 227 rfl rfl
theorem tw_563 : (Cond.instanceMethod yX8_reads : Cond) ∈ tbl := tbl_t2 228 rfl rfl
theorem tw_564 : (Cond.selects RX8 yX8_reads yX8_reads : Cond) ∈ tbl := tbl_t2 229 rfl rfl
theorem tw_565 : (Cond.code yX8_reads cX8_reads 3 (some .boolean) : Cond) ∈ tbl := tbl_t2 230 rfl rfl
theorem tw_566 : (Cond.methodLink RX8 19 yX7_clear : Cond) ∈ tbl := tbl_t2 231 rfl rfl
theorem tw_567 : (Cond.instanceMethod yX7_clear : Cond) ∈ tbl := tbl_t2 232 rfl rfl
theorem tw_568 : (Cond.selects RX7 yX7_clear yX7_clear : Cond) ∈ tbl := tbl_t2 233 rfl rfl
theorem tw_569 : (Cond.code yX7_clear cX7_clear 2 none : Cond) ∈ tbl := tbl_t2 234 rfl rfl
theorem tw_570 : (Cond.methodLink RX8 24 yX8_readsClause : Cond) ∈ tbl := tbl_t2 235 rfl rfl
theorem tw_572 : (Cond.instanceMethod yX8_readsClause : Cond) ∈ tbl := tbl_t2 237 rfl rfl
theorem tw_573 : (Cond.code yX8_readsClause cX8_readsClause 6 (some .boolean) : Cond) ∈ tbl := tbl_t2 238 rfl rfl
theorem tw_574 : (Cond.methodLink RX8 28 yX6_kind : Cond) ∈ tbl := tbl_t2 239 rfl rfl
theorem tw_575 : (Cond.instanceMethod yX6_kind : Cond) ∈ tbl := tbl_t3 0 rfl rfl
theorem tw_576 : (Cond.selects RX6 yX6_kind yX6_kind : Cond) ∈ tbl := tbl_t3 1 rfl rfl
theorem tw_577 : (Cond.code yX6_kind cX6_kind 1 (some .int) : Cond) ∈ tbl := tbl_t3 2 rfl rfl
theorem tw_578 : (Cond.methodLink RX8 37 yX6_fails : Cond) ∈ tbl := tbl_t3 3 rfl rfl
theorem tw_579 : (Cond.instanceMethod yX6_fails : Cond) ∈ tbl := tbl_t3 4 rfl rfl
theorem tw_580 : (Cond.selects RX6 yX6_fails yX6_fails : Cond) ∈ tbl := tbl_t3 5 rfl rfl
theorem tw_581 : (Cond.code yX6_fails cX6_fails 3 (some .boolean) : Cond) ∈ tbl := tbl_t3 6 rfl rfl
theorem tw_582 : (Cond.methodLink RX8 41 yX6_skip : Cond) ∈ tbl := tbl_t3 7 rfl rfl
theorem tw_583 : (Cond.instanceMethod yX6_skip : Cond) ∈ tbl := tbl_t3 8 rfl rfl
theorem tw_584 : (Cond.selects RX6 yX6_skip yX6_skip : Cond) ∈ tbl := tbl_t3 9 rfl rfl
theorem tw_585 : (Cond.code yX6_skip cX6_skip 1 none : Cond) ∈ tbl := tbl_t3 10 rfl rfl
theorem tw_586 : (Cond.methodLink RX8 47 yX8_readsCock : Cond) ∈ tbl := tbl_t3 11 rfl rfl
theorem tw_588 : (Cond.instanceMethod yX8_readsCock : Cond) ∈ tbl := tbl_t3 13 rfl rfl
theorem tw_589 : (Cond.code yX8_readsCock cX8_readsCock 3 (some .boolean) : Cond) ∈ tbl := tbl_t3 14 rfl rfl
theorem tw_590 : (Cond.methodLink RX8 61 yX8_readsInto : Cond) ∈ tbl := tbl_t3 15 rfl rfl
theorem tw_592 : (Cond.instanceMethod yX8_readsInto : Cond) ∈ tbl := tbl_t3 17 rfl rfl
theorem tw_593 : (Cond.code yX8_readsInto cX8_readsInto 4 (some .boolean) : Cond) ∈ tbl := tbl_t3 18 rfl rfl
theorem tw_594 : (Cond.methodLink RX8 86 yX8_readsNumber : Cond) ∈ tbl := tbl_t3 19 rfl rfl
theorem tw_596 : (Cond.instanceMethod yX8_readsNumber : Cond) ∈ tbl := tbl_t3 21 rfl rfl
theorem tw_597 : (Cond.code yX8_readsNumber cX8_readsNumber 2 (some .boolean) : Cond) ∈ tbl := tbl_t3 22 rfl rfl
theorem tw_598 : (Cond.methodLink RX8 93 yX6_value : Cond) ∈ tbl := tbl_t3 23 rfl rfl
theorem tw_599 : (Cond.instanceMethod yX6_value : Cond) ∈ tbl := tbl_t3 24 rfl rfl
theorem tw_600 : (Cond.selects RX6 yX6_value yX6_value : Cond) ∈ tbl := tbl_t3 25 rfl rfl
theorem tw_601 : (Cond.code yX6_value cX6_value 1 (some .int) : Cond) ∈ tbl := tbl_t3 26 rfl rfl
theorem tw_602 : (Cond.methodLink RX8 51 yX8_readsTree : Cond) ∈ tbl := tbl_t3 27 rfl rfl
theorem tw_604 : (Cond.instanceMethod yX8_readsTree : Cond) ∈ tbl := tbl_t3 29 rfl rfl
theorem tw_605 : (Cond.code yX8_readsTree cX8_readsTree 2 (some .boolean) : Cond) ∈ tbl := tbl_t3 30 rfl rfl
theorem tw_606 : (Cond.methodLink RX8 54 yX8_readsWorth : Cond) ∈ tbl := tbl_t3 31 rfl rfl
theorem tw_608 : (Cond.instanceMethod yX8_readsWorth : Cond) ∈ tbl := tbl_t3 33 rfl rfl
theorem tw_609 : (Cond.code yX8_readsWorth cX8_readsWorth 4 (some .boolean) : Cond) ∈ tbl := tbl_t3 34 rfl rfl
theorem tw_610 : (Cond.methodLink RX8 89 yX7_setGain : Cond) ∈ tbl := tbl_t3 35 rfl rfl
theorem tw_611 : (Cond.instanceMethod yX7_setGain : Cond) ∈ tbl := tbl_t3 36 rfl rfl
theorem tw_612 : (Cond.selects RX7 yX7_setGain yX7_setGain : Cond) ∈ tbl := tbl_t3 37 rfl rfl
theorem tw_613 : (Cond.code yX7_setGain cX7_setGain 4 none : Cond) ∈ tbl := tbl_t3 38 rfl rfl
theorem tw_615 : (Cond.static yX10_isBelow : Cond) ∈ tbl := tbl_t3 40 rfl rfl
theorem tw_616 : (Cond.code yX10_isBelow cX10_isBelow 2 (some .boolean) : Cond) ∈ tbl := tbl_t3 41 rfl rfl
theorem tw_617 : (Cond.methodLink RX10 118 yX7_keepMorning : Cond) ∈ tbl := tbl_t3 42 rfl rfl
theorem tw_618 : (Cond.instanceMethod yX7_keepMorning : Cond) ∈ tbl := tbl_t3 43 rfl rfl
theorem tw_619 : (Cond.selects RX7 yX7_keepMorning yX7_keepMorning : Cond) ∈ tbl := tbl_t3 44 rfl rfl
theorem tw_620 : (Cond.code yX7_keepMorning cX7_keepMorning 1 none : Cond) ∈ tbl := tbl_t3 45 rfl rfl
theorem tw_621 : (Cond.methodLink RX7 55 arraycopyName : Cond) ∈ tbl := tbl_t3 46 rfl rfl
theorem tw_624 : (Cond.methodLink RX10 124 yX7_become : Cond) ∈ tbl := tbl_t3 49 rfl rfl
theorem tw_625 : (Cond.instanceMethod yX7_become : Cond) ∈ tbl := tbl_t3 50 rfl rfl
theorem tw_626 : (Cond.selects RX7 yX7_become yX7_become : Cond) ∈ tbl := tbl_t3 51 rfl rfl
theorem tw_627 : (Cond.code yX7_become cX7_become 2 none : Cond) ∈ tbl := tbl_t3 52 rfl rfl
theorem tw_630 : (Cond.instanceMethod yX10_law : Cond) ∈ tbl := tbl_t3 55 rfl rfl
theorem tw_631 : (Cond.selects RX10 yX10_law yX10_law : Cond) ∈ tbl := tbl_t3 56 rfl rfl
theorem tw_632 : (Cond.code yX10_law cX10_law 1 (some .int) : Cond) ∈ tbl := tbl_t3 57 rfl rfl
theorem tw_633 : (Cond.methodLink RX10 131 yX3_reads : Cond) ∈ tbl := tbl_t3 58 rfl rfl
theorem tw_634 : (Cond.instanceMethod yX3_reads : Cond) ∈ tbl := tbl_t3 59 rfl rfl
theorem tw_635 : (Cond.selects RX3 yX3_reads yX3_reads : Cond) ∈ tbl := tbl_t3 60 rfl rfl
theorem tw_636 : (Cond.code yX3_reads cX3_reads 4 (some .boolean) : Cond) ∈ tbl := tbl_t3 61 rfl rfl
theorem tw_637 : (Cond.methodLink RX3 28 yX6_fails : Cond) ∈ tbl := tbl_t3 62 rfl rfl
theorem tw_638 : (Cond.methodLink RX3 32 yX2_clear : Cond) ∈ tbl := tbl_t3 63 rfl rfl
theorem tw_639 : (Cond.instanceMethod yX2_clear : Cond) ∈ tbl := tbl_t3 64 rfl rfl
theorem tw_640 : (Cond.selects RX2 yX2_clear yX2_clear : Cond) ∈ tbl := tbl_t3 65 rfl rfl
theorem tw_641 : (Cond.code yX2_clear cX2_clear 1 none : Cond) ∈ tbl := tbl_t3 66 rfl rfl
theorem tw_642 : (Cond.methodLink RX3 35 yX6_kind : Cond) ∈ tbl := tbl_t3 67 rfl rfl
theorem tw_643 : (Cond.methodLink RX3 39 yX6_skip : Cond) ∈ tbl := tbl_t3 68 rfl rfl
theorem tw_644 : (Cond.methodLink RX3 42 yX3_readsSum : Cond) ∈ tbl := tbl_t3 69 rfl rfl
theorem tw_646 : (Cond.instanceMethod yX3_readsSum : Cond) ∈ tbl := tbl_t3 71 rfl rfl
theorem tw_647 : (Cond.code yX3_readsSum cX3_readsSum 5 (some .boolean) : Cond) ∈ tbl := tbl_t3 72 rfl rfl
theorem tw_648 : (Cond.methodLink RX3 66 yX3_readsValue : Cond) ∈ tbl := tbl_t3 73 rfl rfl
theorem tw_650 : (Cond.instanceMethod yX3_readsValue : Cond) ∈ tbl := tbl_t3 75 rfl rfl
theorem tw_651 : (Cond.code yX3_readsValue cX3_readsValue 3 (some .boolean) : Cond) ∈ tbl := tbl_t3 76 rfl rfl
theorem tw_652 : (Cond.methodLink RX3 72 yX6_value : Cond) ∈ tbl := tbl_t3 77 rfl rfl
theorem tw_653 : (Cond.methodLink RX3 52 yX2_add : Cond) ∈ tbl := tbl_t3 78 rfl rfl
theorem tw_654 : (Cond.instanceMethod yX2_add : Cond) ∈ tbl := tbl_t3 79 rfl rfl
theorem tw_655 : (Cond.selects RX2 yX2_add yX2_add : Cond) ∈ tbl := tbl_t3 80 rfl rfl
theorem tw_656 : (Cond.code yX2_add cX2_add 2 none : Cond) ∈ tbl := tbl_t3 81 rfl rfl
theorem tw_657 : (Cond.methodLink RX3 69 yX3_addIfThere : Cond) ∈ tbl := tbl_t3 82 rfl rfl
theorem tw_659 : (Cond.instanceMethod yX3_addIfThere : Cond) ∈ tbl := tbl_t3 84 rfl rfl
theorem tw_660 : (Cond.code yX3_addIfThere cX3_addIfThere 2 none : Cond) ∈ tbl := tbl_t3 85 rfl rfl
theorem tw_661 : (Cond.methodLink RX3 46 yX3_takes : Cond) ∈ tbl := tbl_t3 86 rfl rfl
theorem tw_663 : (Cond.instanceMethod yX3_takes : Cond) ∈ tbl := tbl_t3 88 rfl rfl
theorem tw_664 : (Cond.code yX3_takes cX3_takes 2 (some .boolean) : Cond) ∈ tbl := tbl_t3 89 rfl rfl
theorem tw_665 : (Cond.methodLink RX3 49 yX3_readsTest : Cond) ∈ tbl := tbl_t3 90 rfl rfl
theorem tw_667 : (Cond.instanceMethod yX3_readsTest : Cond) ∈ tbl := tbl_t3 92 rfl rfl
theorem tw_668 : (Cond.code yX3_readsTest cX3_readsTest 5 (some .boolean) : Cond) ∈ tbl := tbl_t3 93 rfl rfl
theorem tw_669 : (Cond.methodLink RX3 60 yX3_readsFact : Cond) ∈ tbl := tbl_t3 94 rfl rfl
theorem tw_671 : (Cond.instanceMethod yX3_readsFact : Cond) ∈ tbl := tbl_t3 96 rfl rfl
theorem tw_672 : (Cond.code yX3_readsFact cX3_readsFact 3 (some .boolean) : Cond) ∈ tbl := tbl_t3 97 rfl rfl
theorem tw_673 : (Cond.methodLink RX3 63 yX3_readsComparison : Cond) ∈ tbl := tbl_t3 98 rfl rfl
theorem tw_675 : (Cond.instanceMethod yX3_readsComparison : Cond) ∈ tbl := tbl_t3 100 rfl rfl
theorem tw_676 : (Cond.code yX3_readsComparison cX3_readsComparison 2 (some .boolean) : Cond) ∈ tbl := tbl_t3 101 rfl rfl
theorem tw_677 : (Cond.methodLink RX3 56 yX2_become : Cond) ∈ tbl := tbl_t3 102 rfl rfl
theorem tw_678 : (Cond.instanceMethod yX2_become : Cond) ∈ tbl := tbl_t3 103 rfl rfl
theorem tw_679 : (Cond.selects RX2 yX2_become yX2_become : Cond) ∈ tbl := tbl_t3 104 rfl rfl
theorem tw_680 : (Cond.code yX2_become cX2_become 2 none : Cond) ∈ tbl := tbl_t3 105 rfl rfl
theorem tw_681 : (Cond.methodLink RX2 19 arraycopyName : Cond) ∈ tbl := tbl_t3 106 rfl rfl
theorem tw_683 : (Cond.instanceMethod yX10_cock : Cond) ∈ tbl := tbl_t3 108 rfl rfl
theorem tw_684 : (Cond.selects RX10 yX10_cock yX10_cock : Cond) ∈ tbl := tbl_t3 109 rfl rfl
theorem tw_685 : (Cond.code yX10_cock cX10_cock 3 (some .int) : Cond) ∈ tbl := tbl_t3 110 rfl rfl
theorem tw_686 : (Cond.methodLink RX10 134 yX7_hasCock : Cond) ∈ tbl := tbl_t3 111 rfl rfl
theorem tw_687 : (Cond.instanceMethod yX7_hasCock : Cond) ∈ tbl := tbl_t3 112 rfl rfl
theorem tw_688 : (Cond.selects RX7 yX7_hasCock yX7_hasCock : Cond) ∈ tbl := tbl_t3 113 rfl rfl
theorem tw_689 : (Cond.code yX7_hasCock cX7_hasCock 2 (some .boolean) : Cond) ∈ tbl := tbl_t3 114 rfl rfl
theorem tw_691 : (Cond.instanceMethod yX10_tree : Cond) ∈ tbl := tbl_t3 116 rfl rfl
theorem tw_692 : (Cond.selects RX10 yX10_tree yX10_tree : Cond) ∈ tbl := tbl_t3 117 rfl rfl
theorem tw_693 : (Cond.code yX10_tree cX10_tree 3 (some .int) : Cond) ∈ tbl := tbl_t3 118 rfl rfl
theorem tw_694 : (Cond.methodLink RX10 159 yX7_hasTree : Cond) ∈ tbl := tbl_t3 119 rfl rfl
theorem tw_695 : (Cond.instanceMethod yX7_hasTree : Cond) ∈ tbl := tbl_t3 120 rfl rfl
theorem tw_696 : (Cond.selects RX7 yX7_hasTree yX7_hasTree : Cond) ∈ tbl := tbl_t3 121 rfl rfl
theorem tw_697 : (Cond.code yX7_hasTree cX7_hasTree 2 (some .boolean) : Cond) ∈ tbl := tbl_t3 122 rfl rfl
theorem tw_699 : (Cond.instanceMethod yX10_worth : Cond) ∈ tbl := tbl_t3 124 rfl rfl
theorem tw_700 : (Cond.selects RX10 yX10_worth yX10_worth : Cond) ∈ tbl := tbl_t3 125 rfl rfl
theorem tw_701 : (Cond.code yX10_worth cX10_worth 3 (some .int) : Cond) ∈ tbl := tbl_t3 126 rfl rfl
theorem tw_702 : (Cond.methodLink RX10 171 yX10_isThere : Cond) ∈ tbl := tbl_t3 127 rfl rfl
theorem tw_704 : (Cond.instanceMethod yX10_isThere : Cond) ∈ tbl := tbl_t3 129 rfl rfl
theorem tw_705 : (Cond.code yX10_isThere cX10_isThere 1 (some .boolean) : Cond) ∈ tbl := tbl_t3 130 rfl rfl
theorem tw_706 : (Cond.methodLink RX10 175 yX10_isBelow : Cond) ∈ tbl := tbl_t3 131 rfl rfl
theorem tw_707 : (Cond.methodLink RX10 179 yX7_gain : Cond) ∈ tbl := tbl_t3 132 rfl rfl
theorem tw_708 : (Cond.instanceMethod yX7_gain : Cond) ∈ tbl := tbl_t3 133 rfl rfl
theorem tw_709 : (Cond.selects RX7 yX7_gain yX7_gain : Cond) ∈ tbl := tbl_t3 134 rfl rfl
theorem tw_710 : (Cond.code yX7_gain cX7_gain 3 (some .int) : Cond) ∈ tbl := tbl_t3 135 rfl rfl
theorem tw_712 : (Cond.instanceMethod yX10_lee : Cond) ∈ tbl := tbl_t3 137 rfl rfl
theorem tw_713 : (Cond.selects RX10 yX10_lee yX10_lee : Cond) ∈ tbl := tbl_t3 138 rfl rfl
theorem tw_714 : (Cond.code yX10_lee cX10_lee 3 (some .int) : Cond) ∈ tbl := tbl_t3 139 rfl rfl
theorem tw_715 : (Cond.methodLink RX10 183 yX7_sheltering : Cond) ∈ tbl := tbl_t3 140 rfl rfl
theorem tw_716 : (Cond.instanceMethod yX7_sheltering : Cond) ∈ tbl := tbl_t3 141 rfl rfl
theorem tw_717 : (Cond.selects RX7 yX7_sheltering yX7_sheltering : Cond) ∈ tbl := tbl_t3 142 rfl rfl
theorem tw_718 : (Cond.code yX7_sheltering cX7_sheltering 7 (some .int) : Cond) ∈ tbl := tbl_t3 143 rfl rfl
theorem tw_719 : (Cond.methodLink RX7 65 yX7_hasCock : Cond) ∈ tbl := tbl_t3 144 rfl rfl
theorem tw_720 : (Cond.methodLink RX7 69 yX7_isAhead : Cond) ∈ tbl := tbl_t3 145 rfl rfl
theorem tw_721 : (Cond.static yX7_isAhead : Cond) ∈ tbl := tbl_t3 146 rfl rfl
theorem tw_722 : (Cond.code yX7_isAhead cX7_isAhead 4 (some .boolean) : Cond) ∈ tbl := tbl_t3 147 rfl rfl
theorem tw_723 : (Cond.fieldLink RX7 73 "MostCocks$Valley" "STEP_X" "[I" : Cond) ∈ tbl := tbl_t3 148 rfl rfl
theorem tw_725 : (Cond.fieldLink RX7 76 "MostCocks$Valley" "STEP_Y" "[I" : Cond) ∈ tbl := tbl_t3 150 rfl rfl
theorem tw_728 : (Cond.instanceMethod yX10_blow : Cond) ∈ tbl := tbl_t3 153 rfl rfl
theorem tw_729 : (Cond.selects RX10 yX10_blow yX10_blow : Cond) ∈ tbl := tbl_t3 154 rfl rfl
theorem tw_730 : (Cond.code yX10_blow cX10_blow 6 (some .int) : Cond) ∈ tbl := tbl_t3 155 rfl rfl
theorem tw_731 : (Cond.methodLink RX10 187 yX10_canBlow : Cond) ∈ tbl := tbl_t3 156 rfl rfl
theorem tw_733 : (Cond.instanceMethod yX10_canBlow : Cond) ∈ tbl := tbl_t3 158 rfl rfl
theorem tw_734 : (Cond.code yX10_canBlow cX10_canBlow 4 (some .boolean) : Cond) ∈ tbl := tbl_t3 159 rfl rfl
theorem tw_735 : (Cond.methodLink RX10 191 yX9_turnAll : Cond) ∈ tbl := tbl_t3 160 rfl rfl
theorem tw_736 : (Cond.instanceMethod yX9_turnAll : Cond) ∈ tbl := tbl_t3 161 rfl rfl
theorem tw_737 : (Cond.selects RX9 yX9_turnAll yX9_turnAll : Cond) ∈ tbl := tbl_t3 162 rfl rfl
theorem tw_738 : (Cond.code yX9_turnAll cX9_turnAll 8 none : Cond) ∈ tbl := tbl_t3 163 rfl rfl
theorem tw_739 : (Cond.methodLink RX9 61 yX9_stand : Cond) ∈ tbl := tbl_t3 164 rfl rfl
theorem tw_740 : (Cond.instanceMethod yX9_stand : Cond) ∈ tbl := tbl_t3 165 rfl rfl
theorem tw_741 : (Cond.selects RX9 yX9_stand yX9_stand : Cond) ∈ tbl := tbl_t3 166 rfl rfl
theorem tw_742 : (Cond.code yX9_stand cX9_stand 5 none : Cond) ∈ tbl := tbl_t3 167 rfl rfl
theorem tw_743 : (Cond.methodLink RX9 21 yX7_hasCock : Cond) ∈ tbl := tbl_t3 168 rfl rfl
theorem tw_744 : (Cond.methodLink RX9 36 yX7_sheltering : Cond) ∈ tbl := tbl_t3 169 rfl rfl
theorem tw_745 : (Cond.methodLink RX9 68 yX9_turned : Cond) ∈ tbl := tbl_t3 170 rfl rfl
theorem tw_746 : (Cond.instanceMethod yX9_turned : Cond) ∈ tbl := tbl_t3 171 rfl rfl
theorem tw_747 : (Cond.selects RX9 yX9_turned yX9_turned : Cond) ∈ tbl := tbl_t3 172 rfl rfl
theorem tw_748 : (Cond.code yX9_turned cX9_turned 10 (some .int) : Cond) ∈ tbl := tbl_t3 173 rfl rfl
theorem tw_750 : (Cond.static yX10_offBetween : Cond) ∈ tbl := tbl_t3 175 rfl rfl
theorem tw_751 : (Cond.code yX10_offBetween cX10_offBetween 3 (some .int) : Cond) ∈ tbl := tbl_t3 176 rfl rfl
theorem tw_752 : (Cond.methodLink RX10 311 yJ9_min_7cf53 : Cond) ∈ tbl := tbl_t3 177 rfl rfl
theorem tw_755 : (Cond.methodLink RX9 44 yX2_turnFor : Cond) ∈ tbl := tbl_t3 180 rfl rfl
theorem tw_756 : (Cond.instanceMethod yX2_turnFor : Cond) ∈ tbl := tbl_t3 181 rfl rfl
theorem tw_757 : (Cond.selects RX2 yX2_turnFor yX2_turnFor : Cond) ∈ tbl := tbl_t3 182 rfl rfl
theorem tw_758 : (Cond.code yX2_turnFor cX2_turnFor 6 (some .long) : Cond) ∈ tbl := tbl_t3 183 rfl rfl
theorem tw_759 : (Cond.methodLink RX2 25 yX2_isWord : Cond) ∈ tbl := tbl_t3 184 rfl rfl
theorem tw_760 : (Cond.static yX2_isWord : Cond) ∈ tbl := tbl_t3 185 rfl rfl
theorem tw_761 : (Cond.code yX2_isWord cX2_isWord 1 (some .boolean) : Cond) ∈ tbl := tbl_t3 186 rfl rfl
theorem tw_762 : (Cond.methodLink RX2 29 yX2_wordOf : Cond) ∈ tbl := tbl_t3 187 rfl rfl
theorem tw_763 : (Cond.static yX2_wordOf : Cond) ∈ tbl := tbl_t3 188 rfl rfl
theorem tw_764 : (Cond.code yX2_wordOf cX2_wordOf 3 (some .long) : Cond) ∈ tbl := tbl_t3 189 rfl rfl
theorem tw_765 : (Cond.methodLink RX2 35 yX2_joined : Cond) ∈ tbl := tbl_t3 190 rfl rfl
theorem tw_766 : (Cond.static yX2_joined : Cond) ∈ tbl := tbl_t3 191 rfl rfl
theorem tw_767 : (Cond.code yX2_joined cX2_joined 5 (some .long) : Cond) ∈ tbl := tbl_t3 192 rfl rfl
theorem tw_768 : (Cond.methodLink RX9 48 yJ9_min_f86c9 : Cond) ∈ tbl := tbl_t3 193 rfl rfl
theorem tw_771 : (Cond.methodLink RX9 54 yJ9_max_f86c9 : Cond) ∈ tbl := tbl_t3 196 rfl rfl
theorem tw_775 : (Cond.instanceMethod yX10_bend : Cond) ∈ tbl := tbl_t3 200 rfl rfl
theorem tw_776 : (Cond.selects RX10 yX10_bend yX10_bend : Cond) ∈ tbl := tbl_t3 201 rfl rfl
theorem tw_777 : (Cond.code yX10_bend cX10_bend 4 (some .int) : Cond) ∈ tbl := tbl_t3 202 rfl rfl
theorem tw_778 : (Cond.methodLink RX10 195 yX10_bendingCost : Cond) ∈ tbl := tbl_t3 203 rfl rfl
theorem tw_779 : (Cond.static yX10_bendingCost : Cond) ∈ tbl := tbl_t3 204 rfl rfl
theorem tw_780 : (Cond.code yX10_bendingCost cX10_bendingCost 3 (some .int) : Cond) ∈ tbl := tbl_t3 205 rfl rfl
theorem tw_781 : (Cond.methodLink RX10 259 yX10_offBetween : Cond) ∈ tbl := tbl_t3 206 rfl rfl
theorem tw_783 : (Cond.instanceMethod yX10_oil : Cond) ∈ tbl := tbl_t3 208 rfl rfl
theorem tw_784 : (Cond.selects RX10 yX10_oil yX10_oil : Cond) ∈ tbl := tbl_t3 209 rfl rfl
theorem tw_785 : (Cond.code yX10_oil cX10_oil 2 (some .int) : Cond) ∈ tbl := tbl_t3 210 rfl rfl
theorem tw_786 : (Cond.methodLink RX10 198 yX10_rusts : Cond) ∈ tbl := tbl_t3 211 rfl rfl
theorem tw_787 : (Cond.instanceMethod yX10_rusts : Cond) ∈ tbl := tbl_t3 212 rfl rfl
theorem tw_788 : (Cond.selects RX10 yX10_rusts yX10_rusts : Cond) ∈ tbl := tbl_t3 213 rfl rfl
theorem tw_789 : (Cond.code yX10_rusts cX10_rusts 4 (some .int) : Cond) ∈ tbl := tbl_t3 214 rfl rfl
theorem tw_792 : (Cond.instanceMethod yX10_fell : Cond) ∈ tbl := tbl_t3 217 rfl rfl
theorem tw_793 : (Cond.selects RX10 yX10_fell yX10_fell : Cond) ∈ tbl := tbl_t3 218 rfl rfl
theorem tw_794 : (Cond.code yX10_fell cX10_fell 3 (some .boolean) : Cond) ∈ tbl := tbl_t3 219 rfl rfl
theorem tw_796 : (Cond.instanceMethod yX10_morning : Cond) ∈ tbl := tbl_t3 221 rfl rfl
theorem tw_797 : (Cond.selects RX10 yX10_morning yX10_morning : Cond) ∈ tbl := tbl_t3 222 rfl rfl
theorem tw_798 : (Cond.code yX10_morning cX10_morning 3 (some .int) : Cond) ∈ tbl := tbl_t3 223 rfl rfl
theorem tw_800 : (Cond.instanceMethod yX10_vote : Cond) ∈ tbl := tbl_t3 225 rfl rfl
theorem tw_801 : (Cond.selects RX10 yX10_vote yX10_vote : Cond) ∈ tbl := tbl_t3 226 rfl rfl
theorem tw_802 : (Cond.code yX10_vote cX10_vote 2 (some .int) : Cond) ∈ tbl := tbl_t3 227 rfl rfl
theorem tw_803 : (Cond.methodLink RX10 201 yX10_voteOf : Cond) ∈ tbl := tbl_t3 228 rfl rfl
theorem tw_805 : (Cond.instanceMethod yX10_voteOf : Cond) ∈ tbl := tbl_t3 230 rfl rfl
theorem tw_806 : (Cond.code yX10_voteOf cX10_voteOf 3 (some .int) : Cond) ∈ tbl := tbl_t3 231 rfl rfl
theorem tw_807 : (Cond.methodLink RX10 305 yX1_open : Cond) ∈ tbl := tbl_t3 232 rfl rfl
theorem tw_808 : (Cond.instanceMethod yX1_open : Cond) ∈ tbl := tbl_t3 233 rfl rfl
theorem tw_809 : (Cond.selects RX1 yX1_open yX1_open : Cond) ∈ tbl := tbl_t3 234 rfl rfl
theorem tw_810 : (Cond.code yX1_open cX1_open 4 none : Cond) ∈ tbl := tbl_t3 235 rfl rfl
theorem tw_811 : (Cond.methodLink RX1 34 yJ9_min_7cf53 : Cond) ∈ tbl := tbl_t3 236 rfl rfl
theorem tw_812 : (Cond.methodLink RX1 43 yX1_tally : Cond) ∈ tbl := tbl_t3 237 rfl rfl
theorem tw_814 : (Cond.instanceMethod yX1_tally : Cond) ∈ tbl := tbl_t3 239 rfl rfl
theorem tw_815 : (Cond.code yX1_tally cX1_tally 4 none : Cond) ∈ tbl := tbl_t4 0 rfl rfl
theorem tw_816 : (Cond.methodLink RX10 308 yX1_winner : Cond) ∈ tbl := tbl_t4 1 rfl rfl
theorem tw_817 : (Cond.instanceMethod yX1_winner : Cond) ∈ tbl := tbl_t4 2 rfl rfl
theorem tw_818 : (Cond.selects RX1 yX1_winner yX1_winner : Cond) ∈ tbl := tbl_t4 3 rfl rfl
theorem tw_819 : (Cond.code yX1_winner cX1_winner 2 (some .int) : Cond) ∈ tbl := tbl_t4 4 rfl rfl
theorem tw_820 : (Cond.methodLink RX1 51 yX1_leader : Cond) ∈ tbl := tbl_t4 5 rfl rfl
theorem tw_822 : (Cond.instanceMethod yX1_leader : Cond) ∈ tbl := tbl_t4 7 rfl rfl
theorem tw_823 : (Cond.code yX1_leader cX1_leader 5 (some .int) : Cond) ∈ tbl := tbl_t4 8 rfl rfl
theorem tw_824 : (Cond.methodLink RX1 62 yX1_pointOfOldest : Cond) ∈ tbl := tbl_t4 9 rfl rfl
theorem tw_826 : (Cond.instanceMethod yX1_pointOfOldest : Cond) ∈ tbl := tbl_t4 11 rfl rfl
theorem tw_827 : (Cond.code yX1_pointOfOldest cX1_pointOfOldest 7 (some .int) : Cond) ∈ tbl := tbl_t4 12 rfl rfl
theorem tw_828 : (Cond.methodLink RX1 55 yX1_middle : Cond) ∈ tbl := tbl_t4 13 rfl rfl
theorem tw_830 : (Cond.instanceMethod yX1_middle : Cond) ∈ tbl := tbl_t4 15 rfl rfl
theorem tw_831 : (Cond.code yX1_middle cX1_middle 3 (some .int) : Cond) ∈ tbl := tbl_t4 16 rfl rfl
theorem tw_832 : (Cond.methodLink RX1 59 yX1_lastLeft : Cond) ∈ tbl := tbl_t4 17 rfl rfl
theorem tw_834 : (Cond.instanceMethod yX1_lastLeft : Cond) ∈ tbl := tbl_t4 19 rfl rfl
theorem tw_835 : (Cond.code yX1_lastLeft cX1_lastLeft 4 (some .int) : Cond) ∈ tbl := tbl_t4 20 rfl rfl
theorem tw_836 : (Cond.methodLink RX1 66 arraycopyName : Cond) ∈ tbl := tbl_t4 21 rfl rfl
theorem tw_837 : (Cond.methodLink RX1 72 yX1_strikeOut : Cond) ∈ tbl := tbl_t4 22 rfl rfl
theorem tw_839 : (Cond.instanceMethod yX1_strikeOut : Cond) ∈ tbl := tbl_t4 24 rfl rfl
theorem tw_840 : (Cond.code yX1_strikeOut cX1_strikeOut 5 none : Cond) ∈ tbl := tbl_t4 25 rfl rfl
theorem tw_843 : (Cond.instanceMethod yX10_says : Cond) ∈ tbl := tbl_t4 28 rfl rfl
theorem tw_844 : (Cond.selects RX10 yX10_says yX10_says : Cond) ∈ tbl := tbl_t4 29 rfl rfl
theorem tw_845 : (Cond.code yX10_says cX10_says 4 (some .int) : Cond) ∈ tbl := tbl_t4 30 rfl rfl
theorem tw_847 : (Cond.instanceMethod yX10_cheapest : Cond) ∈ tbl := tbl_t4 32 rfl rfl
theorem tw_848 : (Cond.selects RX10 yX10_cheapest yX10_cheapest : Cond) ∈ tbl := tbl_t4 33 rfl rfl
theorem tw_849 : (Cond.code yX10_cheapest cX10_cheapest 5 (some .int) : Cond) ∈ tbl := tbl_t4 34 rfl rfl
theorem tw_850 : (Cond.methodLink RX10 205 yX10_canBuy : Cond) ∈ tbl := tbl_t4 35 rfl rfl
theorem tw_852 : (Cond.instanceMethod yX10_canBuy : Cond) ∈ tbl := tbl_t4 37 rfl rfl
theorem tw_853 : (Cond.code yX10_canBuy cX10_canBuy 3 (some .boolean) : Cond) ∈ tbl := tbl_t4 38 rfl rfl
theorem tw_854 : (Cond.methodLink RX10 208 yX7_hasAllOf : Cond) ∈ tbl := tbl_t4 39 rfl rfl
theorem tw_855 : (Cond.instanceMethod yX7_hasAllOf : Cond) ∈ tbl := tbl_t4 40 rfl rfl
theorem tw_856 : (Cond.selects RX7 yX7_hasAllOf yX7_hasAllOf : Cond) ∈ tbl := tbl_t4 41 rfl rfl
theorem tw_857 : (Cond.code yX7_hasAllOf cX7_hasAllOf 2 (some .boolean) : Cond) ∈ tbl := tbl_t4 42 rfl rfl
theorem tw_858 : (Cond.methodLink RX10 211 yX4_startFrom : Cond) ∈ tbl := tbl_t4 43 rfl rfl
theorem tw_859 : (Cond.instanceMethod yX4_startFrom : Cond) ∈ tbl := tbl_t4 44 rfl rfl
theorem tw_860 : (Cond.selects RX4 yX4_startFrom yX4_startFrom : Cond) ∈ tbl := tbl_t4 45 rfl rfl
theorem tw_861 : (Cond.code yX4_startFrom cX4_startFrom 2 none : Cond) ∈ tbl := tbl_t4 46 rfl rfl
theorem tw_862 : (Cond.methodLink RX4 47 arraycopyName : Cond) ∈ tbl := tbl_t4 47 rfl rfl
theorem tw_863 : (Cond.methodLink RX10 214 yX4_bendTo : Cond) ∈ tbl := tbl_t4 48 rfl rfl
theorem tw_864 : (Cond.instanceMethod yX4_bendTo : Cond) ∈ tbl := tbl_t4 49 rfl rfl
theorem tw_865 : (Cond.selects RX4 yX4_bendTo yX4_bendTo : Cond) ∈ tbl := tbl_t4 50 rfl rfl
theorem tw_866 : (Cond.code yX4_bendTo cX4_bendTo 4 none : Cond) ∈ tbl := tbl_t4 51 rfl rfl
theorem tw_868 : (Cond.methodLink RX10 218 yX4_run : Cond) ∈ tbl := tbl_t4 53 rfl rfl
theorem tw_869 : (Cond.instanceMethod yX4_run : Cond) ∈ tbl := tbl_t4 54 rfl rfl
theorem tw_870 : (Cond.selects RX4 yX4_run yX4_run : Cond) ∈ tbl := tbl_t4 55 rfl rfl
theorem tw_871 : (Cond.code yX4_run cX4_run 9 none : Cond) ∈ tbl := tbl_t4 56 rfl rfl
theorem tw_872 : (Cond.methodLink RX4 63 yX4_listFree : Cond) ∈ tbl := tbl_t4 57 rfl rfl
theorem tw_874 : (Cond.instanceMethod yX4_listFree : Cond) ∈ tbl := tbl_t4 59 rfl rfl
theorem tw_875 : (Cond.code yX4_listFree cX4_listFree 4 none : Cond) ∈ tbl := tbl_t4 60 rfl rfl
theorem tw_876 : (Cond.methodLink RX4 88 yX4_addFree : Cond) ∈ tbl := tbl_t4 61 rfl rfl
theorem tw_878 : (Cond.instanceMethod yX4_addFree : Cond) ∈ tbl := tbl_t4 63 rfl rfl
theorem tw_879 : (Cond.code yX4_addFree cX4_addFree 2 none : Cond) ∈ tbl := tbl_t4 64 rfl rfl
theorem tw_881 : (Cond.methodLink RX4 67 yX1_open : Cond) ∈ tbl := tbl_t4 66 rfl rfl
theorem tw_882 : (Cond.methodLink RX4 73 yX4_flip : Cond) ∈ tbl := tbl_t4 67 rfl rfl
theorem tw_884 : (Cond.instanceMethod yX4_flip : Cond) ∈ tbl := tbl_t4 69 rfl rfl
theorem tw_885 : (Cond.code yX4_flip cX4_flip 7 (some .int) : Cond) ∈ tbl := tbl_t4 70 rfl rfl
theorem tw_886 : (Cond.methodLink RX4 92 yX1_put : Cond) ∈ tbl := tbl_t4 71 rfl rfl
theorem tw_887 : (Cond.instanceMethod yX1_put : Cond) ∈ tbl := tbl_t4 72 rfl rfl
theorem tw_888 : (Cond.selects RX1 yX1_put yX1_put : Cond) ∈ tbl := tbl_t4 73 rfl rfl
theorem tw_889 : (Cond.code yX1_put cX1_put 3 none : Cond) ∈ tbl := tbl_t4 74 rfl rfl
theorem tw_890 : (Cond.methodLink RX4 77 yJ6_bitCount_0f7a4 : Cond) ∈ tbl := tbl_t4 75 rfl rfl
theorem tw_891 : (Cond.static yJ6_bitCount_0f7a4 : Cond) ∈ tbl := tbl_t4 76 rfl rfl
theorem tw_892 : (Cond.code yJ6_bitCount_0f7a4 cJ6_bitCount_0f7a4 1 (some .int) : Cond) ∈ tbl := tbl_t4 77 rfl rfl
theorem tw_893 : (Cond.constant RJ6 265 (1431655765) : Cond) ∈ tbl := tbl_t4 78 rfl rfl
theorem tw_894 : (Cond.constant RJ6 266 (858993459) : Cond) ∈ tbl := tbl_t4 79 rfl rfl
theorem tw_895 : (Cond.constant RJ6 267 (252645135) : Cond) ∈ tbl := tbl_t4 80 rfl rfl
theorem tw_896 : (Cond.methodLink RX4 82 yX1_winner : Cond) ∈ tbl := tbl_t4 81 rfl rfl
theorem tw_897 : (Cond.methodLink RX4 85 yX4_cocksOf : Cond) ∈ tbl := tbl_t4 82 rfl rfl
theorem tw_899 : (Cond.instanceMethod yX4_cocksOf : Cond) ∈ tbl := tbl_t4 84 rfl rfl
theorem tw_900 : (Cond.code yX4_cocksOf cX4_cocksOf 4 (some .int) : Cond) ∈ tbl := tbl_t4 85 rfl rfl
theorem tw_901 : (Cond.methodLink RX10 222 yX4_told : Cond) ∈ tbl := tbl_t4 86 rfl rfl
theorem tw_902 : (Cond.instanceMethod yX4_told : Cond) ∈ tbl := tbl_t4 87 rfl rfl
theorem tw_903 : (Cond.selects RX4 yX4_told yX4_told : Cond) ∈ tbl := tbl_t4 88 rfl rfl
theorem tw_904 : (Cond.code yX4_told cX4_told 2 (some .int) : Cond) ∈ tbl := tbl_t4 89 rfl rfl
theorem tw_906 : (Cond.instanceMethod yX10_answer : Cond) ∈ tbl := tbl_t4 91 rfl rfl
theorem tw_907 : (Cond.selects RX10 yX10_answer yX10_answer : Cond) ∈ tbl := tbl_t4 92 rfl rfl
theorem tw_908 : (Cond.code yX10_answer cX10_answer 7 (some .int) : Cond) ∈ tbl := tbl_t4 93 rfl rfl
theorem tw_909 : (Cond.methodLink RX10 230 yX4_startFromFound : Cond) ∈ tbl := tbl_t4 94 rfl rfl
theorem tw_910 : (Cond.instanceMethod yX4_startFromFound : Cond) ∈ tbl := tbl_t4 95 rfl rfl
theorem tw_911 : (Cond.selects RX4 yX4_startFromFound yX4_startFromFound : Cond) ∈ tbl := tbl_t4 96 rfl rfl
theorem tw_912 : (Cond.code yX4_startFromFound cX4_startFromFound 3 none : Cond) ∈ tbl := tbl_t4 97 rfl rfl
theorem tw_914 : (Cond.instanceMethod yX10_bought : Cond) ∈ tbl := tbl_t4 99 rfl rfl
theorem tw_915 : (Cond.selects RX10 yX10_bought yX10_bought : Cond) ∈ tbl := tbl_t4 100 rfl rfl
theorem tw_916 : (Cond.code yX10_bought cX10_bought 5 (some .int) : Cond) ∈ tbl := tbl_t4 101 rfl rfl
theorem tw_917 : (Cond.methodLink RX10 233 yX4_bendEachForOne : Cond) ∈ tbl := tbl_t4 102 rfl rfl
theorem tw_918 : (Cond.instanceMethod yX4_bendEachForOne : Cond) ∈ tbl := tbl_t4 103 rfl rfl
theorem tw_919 : (Cond.selects RX4 yX4_bendEachForOne yX4_bendEachForOne : Cond) ∈ tbl := tbl_t4 104 rfl rfl
theorem tw_920 : (Cond.code yX4_bendEachForOne cX4_bendEachForOne 4 none : Cond) ∈ tbl := tbl_t4 105 rfl rfl
theorem tw_922 : (Cond.instanceMethod yX10_swings : Cond) ∈ tbl := tbl_t4 107 rfl rfl
theorem tw_923 : (Cond.selects RX10 yX10_swings yX10_swings : Cond) ∈ tbl := tbl_t4 108 rfl rfl
theorem tw_924 : (Cond.code yX10_swings cX10_swings 5 (some .int) : Cond) ∈ tbl := tbl_t4 109 rfl rfl
theorem tw_925 : (Cond.methodLink RX10 239 yX4_unlikeCases : Cond) ∈ tbl := tbl_t4 110 rfl rfl
theorem tw_926 : (Cond.instanceMethod yX4_unlikeCases : Cond) ∈ tbl := tbl_t4 111 rfl rfl
theorem tw_927 : (Cond.selects RX4 yX4_unlikeCases yX4_unlikeCases : Cond) ∈ tbl := tbl_t4 112 rfl rfl
theorem tw_928 : (Cond.code yX4_unlikeCases cX4_unlikeCases 9 (some .int) : Cond) ∈ tbl := tbl_t4 113 rfl rfl
theorem tw_930 : (Cond.instanceMethod yX10_explained : Cond) ∈ tbl := tbl_t4 115 rfl rfl
theorem tw_931 : (Cond.selects RX10 yX10_explained yX10_explained : Cond) ∈ tbl := tbl_t4 116 rfl rfl
theorem tw_932 : (Cond.code yX10_explained cX10_explained 6 (some .int) : Cond) ∈ tbl := tbl_t4 117 rfl rfl
theorem tw_933 : (Cond.methodLink RX10 243 yX10_isExplained : Cond) ∈ tbl := tbl_t4 118 rfl rfl
theorem tw_935 : (Cond.instanceMethod yX10_isExplained : Cond) ∈ tbl := tbl_t4 120 rfl rfl
theorem tw_936 : (Cond.code yX10_isExplained cX10_isExplained 5 (some .boolean) : Cond) ∈ tbl := tbl_t4 121 rfl rfl
theorem tw_937 : (Cond.methodLink RX10 268 yX9_stand : Cond) ∈ tbl := tbl_t4 122 rfl rfl
theorem tw_938 : (Cond.methodLink RX10 277 yX9_turned : Cond) ∈ tbl := tbl_t4 123 rfl rfl
theorem tw_940 : (Cond.instanceMethod yX10_trueWind : Cond) ∈ tbl := tbl_t4 125 rfl rfl
theorem tw_941 : (Cond.selects RX10 yX10_trueWind yX10_trueWind : Cond) ∈ tbl := tbl_t4 126 rfl rfl
theorem tw_942 : (Cond.code yX10_trueWind cX10_trueWind 10 (some .int) : Cond) ∈ tbl := tbl_t4 127 rfl rfl
theorem tw_943 : (Cond.methodLink RX10 247 yX10_unexplainedBy : Cond) ∈ tbl := tbl_t4 128 rfl rfl
theorem tw_945 : (Cond.instanceMethod yX10_unexplainedBy : Cond) ∈ tbl := tbl_t4 130 rfl rfl
theorem tw_946 : (Cond.code yX10_unexplainedBy cX10_unexplainedBy 6 (some .int) : Cond) ∈ tbl := tbl_t4 131 rfl rfl
theorem tw_947 : (Cond.methodLink RX10 250 yJ6_bitCount_0f7a4 : Cond) ∈ tbl := tbl_t4 132 rfl rfl
theorem tw_949 : (Cond.instanceMethod yX10_after : Cond) ∈ tbl := tbl_t4 134 rfl rfl
theorem tw_950 : (Cond.selects RX10 yX10_after yX10_after : Cond) ∈ tbl := tbl_t4 135 rfl rfl
theorem tw_951 : (Cond.code yX10_after cX10_after 7 (some .int) : Cond) ∈ tbl := tbl_t4 136 rfl rfl
theorem tw_952 : (Cond.methodLink RX10 255 yX10_voteAfter : Cond) ∈ tbl := tbl_t4 137 rfl rfl
theorem tw_954 : (Cond.instanceMethod yX10_voteAfter : Cond) ∈ tbl := tbl_t4 139 rfl rfl
theorem tw_955 : (Cond.code yX10_voteAfter cX10_voteAfter 6 (some .int) : Cond) ∈ tbl := tbl_t4 140 rfl rfl
theorem tw_957 : (Cond.instanceMethod yX10_felled : Cond) ∈ tbl := tbl_t4 142 rfl rfl
theorem tw_958 : (Cond.selects RX10 yX10_felled yX10_felled : Cond) ∈ tbl := tbl_t4 143 rfl rfl
theorem tw_959 : (Cond.code yX10_felled cX10_felled 6 (some .int) : Cond) ∈ tbl := tbl_t4 144 rfl rfl
theorem tw_961 : (Cond.instanceMethod yX10_oiled : Cond) ∈ tbl := tbl_t4 146 rfl rfl
theorem tw_962 : (Cond.selects RX10 yX10_oiled yX10_oiled : Cond) ∈ tbl := tbl_t4 147 rfl rfl
theorem tw_963 : (Cond.code yX10_oiled cX10_oiled 7 (some .int) : Cond) ∈ tbl := tbl_t4 148 rfl rfl
theorem tw_965 : (Cond.instanceMethod yX10_bestPoint : Cond) ∈ tbl := tbl_t4 150 rfl rfl
theorem tw_966 : (Cond.selects RX10 yX10_bestPoint yX10_bestPoint : Cond) ∈ tbl := tbl_t4 151 rfl rfl
theorem tw_967 : (Cond.code yX10_bestPoint cX10_bestPoint 9 (some .int) : Cond) ∈ tbl := tbl_t4 152 rfl rfl
theorem tw_968 : (Cond.methodLink RX10 284 yX7_cocksOf : Cond) ∈ tbl := tbl_t4 153 rfl rfl
theorem tw_969 : (Cond.instanceMethod yX7_cocksOf : Cond) ∈ tbl := tbl_t4 154 rfl rfl
theorem tw_970 : (Cond.selects RX7 yX7_cocksOf yX7_cocksOf : Cond) ∈ tbl := tbl_t4 155 rfl rfl
theorem tw_971 : (Cond.code yX7_cocksOf cX7_cocksOf 4 (some .int) : Cond) ∈ tbl := tbl_t4 156 rfl rfl
theorem tw_973 : (Cond.instanceMethod yX10_seed : Cond) ∈ tbl := tbl_t4 158 rfl rfl
theorem tw_974 : (Cond.selects RX10 yX10_seed yX10_seed : Cond) ∈ tbl := tbl_t4 159 rfl rfl
theorem tw_975 : (Cond.code yX10_seed cX10_seed 3 (some .int) : Cond) ∈ tbl := tbl_t4 160 rfl rfl
theorem tw_977 : (Cond.instanceMethod yX10_lot : Cond) ∈ tbl := tbl_t4 162 rfl rfl
theorem tw_978 : (Cond.selects RX10 yX10_lot yX10_lot : Cond) ∈ tbl := tbl_t4 163 rfl rfl
theorem tw_979 : (Cond.code yX10_lot cX10_lot 2 (some .int) : Cond) ∈ tbl := tbl_t4 164 rfl rfl
theorem tw_980 : (Cond.methodLink RX10 287 yX10_nextDrawn : Cond) ∈ tbl := tbl_t4 165 rfl rfl
theorem tw_981 : (Cond.static yX10_nextDrawn : Cond) ∈ tbl := tbl_t4 166 rfl rfl
theorem tw_982 : (Cond.code yX10_nextDrawn cX10_nextDrawn 1 (some .int) : Cond) ∈ tbl := tbl_t4 167 rfl rfl
theorem tw_983 : (Cond.constantLong RX10 316 (1103515245) : Cond) ∈ tbl := tbl_t4 168 rfl rfl
theorem tw_984 : (Cond.constantLong RX10 318 (12345) : Cond) ∈ tbl := tbl_t4 169 rfl rfl
theorem tw_985 : (Cond.constantLong RX10 320 (2147483647) : Cond) ∈ tbl := tbl_t4 170 rfl rfl
theorem tw_986 : (Cond.constant RX10 290 (65536) : Cond) ∈ tbl := tbl_t4 171 rfl rfl
theorem tw_988 : (Cond.instanceMethod yX10_years : Cond) ∈ tbl := tbl_t4 173 rfl rfl
theorem tw_989 : (Cond.selects RX10 yX10_years yX10_years : Cond) ∈ tbl := tbl_t4 174 rfl rfl
theorem tw_990 : (Cond.code yX10_years cX10_years 10 (some .int) : Cond) ∈ tbl := tbl_t4 175 rfl rfl
theorem tw_991 : (Cond.methodLink RX10 291 yX0_open : Cond) ∈ tbl := tbl_t4 176 rfl rfl
theorem tw_992 : (Cond.instanceMethod yX0_open : Cond) ∈ tbl := tbl_t4 177 rfl rfl
theorem tw_993 : (Cond.selects RX0 yX0_open yX0_open : Cond) ∈ tbl := tbl_t4 178 rfl rfl
theorem tw_994 : (Cond.code yX0_open cX0_open 4 none : Cond) ∈ tbl := tbl_t4 179 rfl rfl
theorem tw_995 : (Cond.methodLink RX0 50 arraycopyName : Cond) ∈ tbl := tbl_t4 180 rfl rfl
theorem tw_996 : (Cond.methodLink RX10 295 yX0_voteOfNextDay : Cond) ∈ tbl := tbl_t4 181 rfl rfl
theorem tw_997 : (Cond.instanceMethod yX0_voteOfNextDay : Cond) ∈ tbl := tbl_t4 182 rfl rfl
theorem tw_998 : (Cond.selects RX0 yX0_voteOfNextDay yX0_voteOfNextDay : Cond) ∈ tbl := tbl_t4 183 rfl rfl
theorem tw_999 : (Cond.code yX0_voteOfNextDay cX0_voteOfNextDay 3 (some .int) : Cond) ∈ tbl := tbl_t4 184 rfl rfl
theorem tw_1001 : (Cond.constant RX0 60 (65536) : Cond) ∈ tbl := tbl_t4 186 rfl rfl
theorem tw_1002 : (Cond.methodLink RX0 64 yX0_evening : Cond) ∈ tbl := tbl_t4 187 rfl rfl
theorem tw_1004 : (Cond.instanceMethod yX0_evening : Cond) ∈ tbl := tbl_t4 189 rfl rfl
theorem tw_1005 : (Cond.code yX0_evening cX0_evening 4 (some .int) : Cond) ∈ tbl := tbl_t4 190 rfl rfl
theorem tw_1006 : (Cond.methodLink RX0 80 yX9_stand : Cond) ∈ tbl := tbl_t4 191 rfl rfl
theorem tw_1007 : (Cond.methodLink RX0 86 yX9_turned : Cond) ∈ tbl := tbl_t4 192 rfl rfl
theorem tw_1008 : (Cond.methodLink RX0 68 yX1_open : Cond) ∈ tbl := tbl_t4 193 rfl rfl
theorem tw_1009 : (Cond.methodLink RX0 74 yX1_winner : Cond) ∈ tbl := tbl_t4 194 rfl rfl
theorem tw_1011 : (Cond.instanceMethod yX10_count : Cond) ∈ tbl := tbl_t4 196 rfl rfl
theorem tw_1012 : (Cond.selects RX10 yX10_count yX10_count : Cond) ∈ tbl := tbl_t4 197 rfl rfl
theorem tw_1013 : (Cond.code yX10_count cX10_count 2 (some .int) : Cond) ∈ tbl := tbl_t4 198 rfl rfl
theorem tw_1014 : (Cond.methodLink RX10 301 yX7_ageOfAll : Cond) ∈ tbl := tbl_t4 199 rfl rfl
theorem tw_1015 : (Cond.instanceMethod yX7_ageOfAll : Cond) ∈ tbl := tbl_t4 200 rfl rfl
theorem tw_1016 : (Cond.selects RX7 yX7_ageOfAll yX7_ageOfAll : Cond) ∈ tbl := tbl_t4 201 rfl rfl
theorem tw_1017 : (Cond.code yX7_ageOfAll cX7_ageOfAll 3 (some .int) : Cond) ∈ tbl := tbl_t4 202 rfl rfl
theorem tw_1019 : (Cond.instanceMethod yX10_image : Cond) ∈ tbl := tbl_t4 204 rfl rfl
theorem tw_1020 : (Cond.selects RX10 yX10_image yX10_image : Cond) ∈ tbl := tbl_t4 205 rfl rfl
theorem tw_1021 : (Cond.code yX10_image cX10_image 3 (some .int) : Cond) ∈ tbl := tbl_t4 206 rfl rfl
theorem tw_1023 : (Cond.instanceMethod yX10_back : Cond) ∈ tbl := tbl_t4 208 rfl rfl
theorem tw_1024 : (Cond.selects RX10 yX10_back yX10_back : Cond) ∈ tbl := tbl_t4 209 rfl rfl
theorem tw_1025 : (Cond.code yX10_back cX10_back 2 (some .int) : Cond) ∈ tbl := tbl_t4 210 rfl rfl
theorem tw_1029 : (Cond.instanceMethod yX11_init : Cond) ∈ tbl := tbl_t4 214 rfl rfl
theorem tw_1030 : (Cond.code yX11_init cX11_init 1 none : Cond) ∈ tbl := tbl_t4 215 rfl rfl
theorem tw_1031 : (Cond.methodLink RX11 1 Lib.objectInit : Cond) ∈ tbl := tbl_t4 216 rfl rfl
theorem tw_1134 : (Cond.instanceMethod yX11_feed : Cond) ∈ tbl := tbl_t5 79 rfl rfl
theorem tw_1135 : (Cond.selects RX11 yX11_feed yX11_feed : Cond) ∈ tbl := tbl_t5 80 rfl rfl
theorem tw_1136 : (Cond.code yX11_feed cX11_feed 6 (some .int) : Cond) ∈ tbl := tbl_t5 81 rfl rfl
theorem tw_1137 : (Cond.methodLink RX11 74 yX11_four : Cond) ∈ tbl := tbl_t5 82 rfl rfl
theorem tw_1139 : (Cond.instanceMethod yX11_four : Cond) ∈ tbl := tbl_t5 84 rfl rfl
theorem tw_1140 : (Cond.code yX11_four cX11_four 3 none : Cond) ∈ tbl := tbl_t5 85 rfl rfl
theorem tw_1142 : (Cond.instanceMethod yX11_end : Cond) ∈ tbl := tbl_t5 87 rfl rfl
theorem tw_1143 : (Cond.selects RX11 yX11_end yX11_end : Cond) ∈ tbl := tbl_t5 88 rfl rfl
theorem tw_1144 : (Cond.code yX11_end cX11_end 2 (some .int) : Cond) ∈ tbl := tbl_t5 89 rfl rfl
theorem tw_1146 : (Cond.instanceMethod yX11_law : Cond) ∈ tbl := tbl_t5 91 rfl rfl
theorem tw_1147 : (Cond.selects RX11 yX11_law yX11_law : Cond) ∈ tbl := tbl_t5 92 rfl rfl
theorem tw_1148 : (Cond.code yX11_law cX11_law 1 (some .int) : Cond) ∈ tbl := tbl_t5 93 rfl rfl
theorem tw_1149 : (Cond.methodLink RX11 239 yX11_readsAll : Cond) ∈ tbl := tbl_t5 94 rfl rfl
theorem tw_1151 : (Cond.instanceMethod yX11_readsAll : Cond) ∈ tbl := tbl_t5 96 rfl rfl
theorem tw_1152 : (Cond.code yX11_readsAll cX11_readsAll 2 (some .boolean) : Cond) ∈ tbl := tbl_t5 97 rfl rfl
theorem tw_1153 : (Cond.methodLink RX11 233 yX11_clauseHere : Cond) ∈ tbl := tbl_t5 98 rfl rfl
theorem tw_1155 : (Cond.instanceMethod yX11_clauseHere : Cond) ∈ tbl := tbl_t5 100 rfl rfl
theorem tw_1156 : (Cond.code yX11_clauseHere cX11_clauseHere 4 (some .boolean) : Cond) ∈ tbl := tbl_t5 101 rfl rfl
theorem tw_1157 : (Cond.methodLink RX11 84 yX11_see : Cond) ∈ tbl := tbl_t5 102 rfl rfl
theorem tw_1159 : (Cond.instanceMethod yX11_see : Cond) ∈ tbl := tbl_t5 104 rfl rfl
theorem tw_1160 : (Cond.code yX11_see cX11_see 1 (some .int) : Cond) ∈ tbl := tbl_t5 105 rfl rfl
theorem tw_1161 : (Cond.constantLong RX11 113 (1668244331) : Cond) ∈ tbl := tbl_t5 106 rfl rfl
theorem tw_1162 : (Cond.methodLink RX11 92 yX11_isWord : Cond) ∈ tbl := tbl_t5 107 rfl rfl
theorem tw_1164 : (Cond.instanceMethod yX11_isWord : Cond) ∈ tbl := tbl_t5 109 rfl rfl
theorem tw_1165 : (Cond.code yX11_isWord cX11_isWord 6 (some .boolean) : Cond) ∈ tbl := tbl_t5 110 rfl rfl
theorem tw_1166 : (Cond.methodLink RX11 88 yX11_isLetter : Cond) ∈ tbl := tbl_t5 111 rfl rfl
theorem tw_1168 : (Cond.instanceMethod yX11_isLetter : Cond) ∈ tbl := tbl_t5 113 rfl rfl
theorem tw_1169 : (Cond.code yX11_isLetter cX11_isLetter 2 (some .boolean) : Cond) ∈ tbl := tbl_t5 114 rfl rfl
theorem tw_1170 : (Cond.constantLong RX11 212 (1953654117) : Cond) ∈ tbl := tbl_t5 115 rfl rfl
theorem tw_1171 : (Cond.constantLong RX11 214 (512970880104) : Cond) ∈ tbl := tbl_t5 116 rfl rfl
theorem tw_1172 : (Cond.constantLong RX11 216 (1953854062) : Cond) ∈ tbl := tbl_t5 117 rfl rfl
theorem tw_1173 : (Cond.methodLink RX11 102 yX11_fails : Cond) ∈ tbl := tbl_t5 118 rfl rfl
theorem tw_1175 : (Cond.instanceMethod yX11_fails : Cond) ∈ tbl := tbl_t5 120 rfl rfl
theorem tw_1176 : (Cond.code yX11_fails cX11_fails 3 (some .boolean) : Cond) ∈ tbl := tbl_t5 121 rfl rfl
theorem tw_1177 : (Cond.methodLink RX11 221 yX11_isTurnHere : Cond) ∈ tbl := tbl_t5 122 rfl rfl
theorem tw_1179 : (Cond.instanceMethod yX11_isTurnHere : Cond) ∈ tbl := tbl_t5 124 rfl rfl
theorem tw_1180 : (Cond.code yX11_isTurnHere cX11_isTurnHere 2 (some .boolean) : Cond) ∈ tbl := tbl_t5 125 rfl rfl
theorem tw_1181 : (Cond.methodLink RX11 96 yX11_passWord : Cond) ∈ tbl := tbl_t5 126 rfl rfl
theorem tw_1183 : (Cond.instanceMethod yX11_passWord : Cond) ∈ tbl := tbl_t5 128 rfl rfl
theorem tw_1184 : (Cond.code yX11_passWord cX11_passWord 1 none : Cond) ∈ tbl := tbl_t5 129 rfl rfl
theorem tw_1185 : (Cond.methodLink RX11 168 yX11_sum : Cond) ∈ tbl := tbl_t5 130 rfl rfl
theorem tw_1187 : (Cond.instanceMethod yX11_sum : Cond) ∈ tbl := tbl_t5 132 rfl rfl
theorem tw_1188 : (Cond.code yX11_sum cX11_sum 2 (some .boolean) : Cond) ∈ tbl := tbl_t5 133 rfl rfl
theorem tw_1189 : (Cond.methodLink RX11 165 yX11_term : Cond) ∈ tbl := tbl_t5 134 rfl rfl
theorem tw_1191 : (Cond.instanceMethod yX11_term : Cond) ∈ tbl := tbl_t5 136 rfl rfl
theorem tw_1192 : (Cond.code yX11_term cX11_term 2 (some .boolean) : Cond) ∈ tbl := tbl_t5 137 rfl rfl
theorem tw_1193 : (Cond.methodLink RX11 161 yX11_value : Cond) ∈ tbl := tbl_t5 138 rfl rfl
theorem tw_1195 : (Cond.instanceMethod yX11_value : Cond) ∈ tbl := tbl_t5 140 rfl rfl
theorem tw_1196 : (Cond.code yX11_value cX11_value 3 (some .boolean) : Cond) ∈ tbl := tbl_t5 141 rfl rfl
theorem tw_1197 : (Cond.methodLink RX11 99 yX11_isDigit : Cond) ∈ tbl := tbl_t5 142 rfl rfl
theorem tw_1199 : (Cond.instanceMethod yX11_isDigit : Cond) ∈ tbl := tbl_t5 144 rfl rfl
theorem tw_1200 : (Cond.code yX11_isDigit cX11_isDigit 2 (some .boolean) : Cond) ∈ tbl := tbl_t5 145 rfl rfl
theorem tw_1201 : (Cond.constant RX11 151 (99999) : Cond) ∈ tbl := tbl_t5 146 rfl rfl
theorem tw_1202 : (Cond.methodLink RX11 152 yX11_numberHere : Cond) ∈ tbl := tbl_t5 147 rfl rfl
theorem tw_1204 : (Cond.instanceMethod yX11_numberHere : Cond) ∈ tbl := tbl_t5 149 rfl rfl
theorem tw_1205 : (Cond.code yX11_numberHere cX11_numberHere 5 (some .boolean) : Cond) ∈ tbl := tbl_t5 150 rfl rfl
theorem tw_1206 : (Cond.methodLink RX11 109 yX11_in : Cond) ∈ tbl := tbl_t5 151 rfl rfl
theorem tw_1207 : (Cond.static yX11_in : Cond) ∈ tbl := tbl_t5 152 rfl rfl
theorem tw_1208 : (Cond.code yX11_in cX11_in 6 (some .boolean) : Cond) ∈ tbl := tbl_t5 153 rfl rfl
theorem tw_1209 : (Cond.methodLink RX11 155 yX11_makes : Cond) ∈ tbl := tbl_t5 154 rfl rfl
theorem tw_1211 : (Cond.instanceMethod yX11_makes : Cond) ∈ tbl := tbl_t5 156 rfl rfl
theorem tw_1212 : (Cond.code yX11_makes cX11_makes 2 (some .boolean) : Cond) ∈ tbl := tbl_t5 157 rfl rfl
theorem tw_1213 : (Cond.methodLink RX11 147 yX11_puts : Cond) ∈ tbl := tbl_t5 158 rfl rfl
theorem tw_1215 : (Cond.instanceMethod yX11_puts : Cond) ∈ tbl := tbl_t5 160 rfl rfl
theorem tw_1216 : (Cond.code yX11_puts cX11_puts 3 none : Cond) ∈ tbl := tbl_t5 161 rfl rfl
theorem tw_1217 : (Cond.methodLink RX11 158 yX11_wordHere : Cond) ∈ tbl := tbl_t5 162 rfl rfl
theorem tw_1219 : (Cond.instanceMethod yX11_wordHere : Cond) ∈ tbl := tbl_t5 164 rfl rfl
theorem tw_1220 : (Cond.code yX11_wordHere cX11_wordHere 1 (some .int) : Cond) ∈ tbl := tbl_t5 165 rfl rfl
theorem tw_1221 : (Cond.constantLong RX11 115 (1920299892) : Cond) ∈ tbl := tbl_t5 166 rfl rfl
theorem tw_1222 : (Cond.constantLong RX11 117 (6383461) : Cond) ∈ tbl := tbl_t5 167 rfl rfl
theorem tw_1223 : (Cond.constantLong RX11 119 (478745093490) : Cond) ∈ tbl := tbl_t5 168 rfl rfl
theorem tw_1224 : (Cond.constantLong RX11 121 (24948) : Cond) ∈ tbl := tbl_t5 169 rfl rfl
theorem tw_1225 : (Cond.constantLong RX11 123 (7300710) : Cond) ∈ tbl := tbl_t5 170 rfl rfl
theorem tw_1226 : (Cond.constantLong RX11 125 (2003398244) : Cond) ∈ tbl := tbl_t5 171 rfl rfl
theorem tw_1227 : (Cond.constantLong RX11 127 (7103845) : Cond) ∈ tbl := tbl_t5 172 rfl rfl
theorem tw_1228 : (Cond.constantLong RX11 129 (1752135026) : Cond) ∈ tbl := tbl_t5 173 rfl rfl
theorem tw_1229 : (Cond.constantLong RX11 195 (26982) : Cond) ∈ tbl := tbl_t5 174 rfl rfl
theorem tw_1230 : (Cond.methodLink RX11 197 yX11_takesWord : Cond) ∈ tbl := tbl_t5 175 rfl rfl
theorem tw_1232 : (Cond.instanceMethod yX11_takesWord : Cond) ∈ tbl := tbl_t5 177 rfl rfl
theorem tw_1233 : (Cond.code yX11_takesWord cX11_takesWord 3 (some .boolean) : Cond) ∈ tbl := tbl_t5 178 rfl rfl
theorem tw_1234 : (Cond.methodLink RX11 200 yX11_tested : Cond) ∈ tbl := tbl_t5 179 rfl rfl
theorem tw_1236 : (Cond.instanceMethod yX11_tested : Cond) ∈ tbl := tbl_t5 181 rfl rfl
theorem tw_1237 : (Cond.code yX11_tested cX11_tested 3 (some .boolean) : Cond) ∈ tbl := tbl_t5 182 rfl rfl
theorem tw_1238 : (Cond.methodLink RX11 185 yX11_fact : Cond) ∈ tbl := tbl_t5 183 rfl rfl
theorem tw_1240 : (Cond.instanceMethod yX11_fact : Cond) ∈ tbl := tbl_t5 185 rfl rfl
theorem tw_1241 : (Cond.code yX11_fact cX11_fact 3 (some .boolean) : Cond) ∈ tbl := tbl_t5 186 rfl rfl
theorem tw_1242 : (Cond.constantLong RX11 171 (7237492) : Cond) ∈ tbl := tbl_t5 187 rfl rfl
theorem tw_1243 : (Cond.methodLink RX11 173 yX11_opens : Cond) ∈ tbl := tbl_t5 188 rfl rfl
theorem tw_1245 : (Cond.instanceMethod yX11_opens : Cond) ∈ tbl := tbl_t5 190 rfl rfl
theorem tw_1246 : (Cond.code yX11_opens cX11_opens 2 (some .boolean) : Cond) ∈ tbl := tbl_t5 191 rfl rfl
theorem tw_1247 : (Cond.methodLink RX11 176 yX11_compare : Cond) ∈ tbl := tbl_t5 192 rfl rfl
theorem tw_1249 : (Cond.instanceMethod yX11_compare : Cond) ∈ tbl := tbl_t5 194 rfl rfl
theorem tw_1250 : (Cond.code yX11_compare cX11_compare 5 (some .boolean) : Cond) ∈ tbl := tbl_t5 195 rfl rfl
theorem tw_1251 : (Cond.methodLink RX11 188 yX11_closes : Cond) ∈ tbl := tbl_t5 196 rfl rfl
theorem tw_1253 : (Cond.instanceMethod yX11_closes : Cond) ∈ tbl := tbl_t5 198 rfl rfl
theorem tw_1254 : (Cond.code yX11_closes cX11_closes 1 none : Cond) ∈ tbl := tbl_t5 199 rfl rfl
theorem tw_1255 : (Cond.methodLink RX11 179 yX11_settles : Cond) ∈ tbl := tbl_t5 200 rfl rfl
theorem tw_1257 : (Cond.instanceMethod yX11_settles : Cond) ∈ tbl := tbl_t5 202 rfl rfl
theorem tw_1258 : (Cond.code yX11_settles cX11_settles 2 none : Cond) ∈ tbl := tbl_t5 203 rfl rfl
theorem tw_1259 : (Cond.methodLink RX11 143 yX11_strength : Cond) ∈ tbl := tbl_t5 204 rfl rfl
theorem tw_1260 : (Cond.static yX11_strength : Cond) ∈ tbl := tbl_t5 205 rfl rfl
theorem tw_1261 : (Cond.code yX11_strength cX11_strength 1 (some .int) : Cond) ∈ tbl := tbl_t5 206 rfl rfl
theorem tw_1262 : (Cond.methodLink RX11 182 yX11_isInside : Cond) ∈ tbl := tbl_t5 207 rfl rfl
theorem tw_1264 : (Cond.instanceMethod yX11_isInside : Cond) ∈ tbl := tbl_t5 209 rfl rfl
theorem tw_1265 : (Cond.code yX11_isInside cX11_isInside 2 (some .boolean) : Cond) ∈ tbl := tbl_t5 210 rfl rfl
theorem tw_1266 : (Cond.constantLong RX11 191 (6385252) : Cond) ∈ tbl := tbl_t5 211 rfl rfl
theorem tw_1267 : (Cond.constantLong RX11 193 (28530) : Cond) ∈ tbl := tbl_t5 212 rfl rfl
theorem tw_1268 : (Cond.methodLink RX11 224 yX11_isCockHere : Cond) ∈ tbl := tbl_t5 213 rfl rfl
theorem tw_1270 : (Cond.instanceMethod yX11_isCockHere : Cond) ∈ tbl := tbl_t5 215 rfl rfl
theorem tw_1271 : (Cond.code yX11_isCockHere cX11_isCockHere 3 (some .boolean) : Cond) ∈ tbl := tbl_t5 216 rfl rfl
theorem tw_1272 : (Cond.methodLink RX11 206 yX11_mostOf : Cond) ∈ tbl := tbl_t5 217 rfl rfl
theorem tw_1273 : (Cond.static yX11_mostOf : Cond) ∈ tbl := tbl_t5 218 rfl rfl
theorem tw_1274 : (Cond.code yX11_mostOf cX11_mostOf 1 (some .int) : Cond) ∈ tbl := tbl_t5 219 rfl rfl
theorem tw_1275 : (Cond.methodLink RX11 227 yX11_isTreeHere : Cond) ∈ tbl := tbl_t5 220 rfl rfl
theorem tw_1277 : (Cond.instanceMethod yX11_isTreeHere : Cond) ∈ tbl := tbl_t5 222 rfl rfl
theorem tw_1278 : (Cond.code yX11_isTreeHere cX11_isTreeHere 3 (some .boolean) : Cond) ∈ tbl := tbl_t5 223 rfl rfl
theorem tw_1279 : (Cond.methodLink RX11 230 yX11_isWorthHere : Cond) ∈ tbl := tbl_t5 224 rfl rfl
theorem tw_1281 : (Cond.instanceMethod yX11_isWorthHere : Cond) ∈ tbl := tbl_t5 226 rfl rfl
theorem tw_1282 : (Cond.code yX11_isWorthHere cX11_isWorthHere 3 (some .boolean) : Cond) ∈ tbl := tbl_t5 227 rfl rfl
theorem tw_1284 : (Cond.instanceMethod yX11_valley : Cond) ∈ tbl := tbl_t5 229 rfl rfl
theorem tw_1285 : (Cond.selects RX11 yX11_valley yX11_valley : Cond) ∈ tbl := tbl_t5 230 rfl rfl
theorem tw_1286 : (Cond.code yX11_valley cX11_valley 3 (some .int) : Cond) ∈ tbl := tbl_t5 231 rfl rfl
theorem tw_1288 : (Cond.instanceMethod yX11_cock : Cond) ∈ tbl := tbl_t5 233 rfl rfl
theorem tw_1289 : (Cond.selects RX11 yX11_cock yX11_cock : Cond) ∈ tbl := tbl_t5 234 rfl rfl
theorem tw_1290 : (Cond.code yX11_cock cX11_cock 3 (some .int) : Cond) ∈ tbl := tbl_t5 235 rfl rfl
theorem tw_1291 : (Cond.methodLink RX11 257 yX11_isCock : Cond) ∈ tbl := tbl_t5 236 rfl rfl
theorem tw_1293 : (Cond.instanceMethod yX11_isCock : Cond) ∈ tbl := tbl_t5 238 rfl rfl
theorem tw_1294 : (Cond.code yX11_isCock cX11_isCock 2 (some .boolean) : Cond) ∈ tbl := tbl_t5 239 rfl rfl
theorem tw_1295 : (Cond.constantLong RX11 260 (6) : Cond) ∈ tbl := tbl_t6 0 rfl rfl
theorem tw_1296 : (Cond.methodLink RX11 262 yX11_cockOf : Cond) ∈ tbl := tbl_t6 1 rfl rfl
theorem tw_1298 : (Cond.instanceMethod yX11_cockOf : Cond) ∈ tbl := tbl_t6 3 rfl rfl
theorem tw_1299 : (Cond.code yX11_cockOf cX11_cockOf 3 (some .int) : Cond) ∈ tbl := tbl_t6 4 rfl rfl
theorem tw_1301 : (Cond.instanceMethod yX11_tree : Cond) ∈ tbl := tbl_t6 6 rfl rfl
theorem tw_1302 : (Cond.selects RX11 yX11_tree yX11_tree : Cond) ∈ tbl := tbl_t6 7 rfl rfl
theorem tw_1303 : (Cond.code yX11_tree cX11_tree 3 (some .int) : Cond) ∈ tbl := tbl_t6 8 rfl rfl
theorem tw_1304 : (Cond.methodLink RX11 266 yX11_isTree : Cond) ∈ tbl := tbl_t6 9 rfl rfl
theorem tw_1306 : (Cond.instanceMethod yX11_isTree : Cond) ∈ tbl := tbl_t6 11 rfl rfl
theorem tw_1307 : (Cond.code yX11_isTree cX11_isTree 2 (some .boolean) : Cond) ∈ tbl := tbl_t6 12 rfl rfl
theorem tw_1308 : (Cond.constantLong RX11 269 (2) : Cond) ∈ tbl := tbl_t6 13 rfl rfl
theorem tw_1309 : (Cond.methodLink RX11 271 yX11_treeOf : Cond) ∈ tbl := tbl_t6 14 rfl rfl
theorem tw_1311 : (Cond.instanceMethod yX11_treeOf : Cond) ∈ tbl := tbl_t6 16 rfl rfl
theorem tw_1312 : (Cond.code yX11_treeOf cX11_treeOf 3 (some .int) : Cond) ∈ tbl := tbl_t6 17 rfl rfl
theorem tw_1314 : (Cond.instanceMethod yX11_worth : Cond) ∈ tbl := tbl_t6 19 rfl rfl
theorem tw_1315 : (Cond.selects RX11 yX11_worth yX11_worth : Cond) ∈ tbl := tbl_t6 20 rfl rfl
theorem tw_1316 : (Cond.code yX11_worth cX11_worth 3 (some .int) : Cond) ∈ tbl := tbl_t6 21 rfl rfl
theorem tw_1317 : (Cond.constantLong RX11 274 (3) : Cond) ∈ tbl := tbl_t6 22 rfl rfl
theorem tw_1318 : (Cond.methodLink RX11 276 yX11_isPoint : Cond) ∈ tbl := tbl_t6 23 rfl rfl
theorem tw_1319 : (Cond.static yX11_isPoint : Cond) ∈ tbl := tbl_t6 24 rfl rfl
theorem tw_1320 : (Cond.code yX11_isPoint cX11_isPoint 1 (some .boolean) : Cond) ∈ tbl := tbl_t6 25 rfl rfl
theorem tw_1322 : (Cond.instanceMethod yX11_lee : Cond) ∈ tbl := tbl_t6 27 rfl rfl
theorem tw_1323 : (Cond.selects RX11 yX11_lee yX11_lee : Cond) ∈ tbl := tbl_t6 28 rfl rfl
theorem tw_1324 : (Cond.code yX11_lee cX11_lee 3 (some .int) : Cond) ∈ tbl := tbl_t6 29 rfl rfl
theorem tw_1325 : (Cond.methodLink RX11 285 yX11_leeOf : Cond) ∈ tbl := tbl_t6 30 rfl rfl
theorem tw_1327 : (Cond.instanceMethod yX11_leeOf : Cond) ∈ tbl := tbl_t6 32 rfl rfl
theorem tw_1328 : (Cond.code yX11_leeOf cX11_leeOf 7 (some .int) : Cond) ∈ tbl := tbl_t6 33 rfl rfl
theorem tw_1329 : (Cond.methodLink RX11 279 yX11_across : Cond) ∈ tbl := tbl_t6 34 rfl rfl
theorem tw_1330 : (Cond.static yX11_across : Cond) ∈ tbl := tbl_t6 35 rfl rfl
theorem tw_1331 : (Cond.code yX11_across cX11_across 1 (some .int) : Cond) ∈ tbl := tbl_t6 36 rfl rfl
theorem tw_1332 : (Cond.methodLink RX11 282 yX11_down : Cond) ∈ tbl := tbl_t6 37 rfl rfl
theorem tw_1333 : (Cond.static yX11_down : Cond) ∈ tbl := tbl_t6 38 rfl rfl
theorem tw_1334 : (Cond.code yX11_down cX11_down 1 (some .int) : Cond) ∈ tbl := tbl_t6 39 rfl rfl
theorem tw_1336 : (Cond.instanceMethod yX11_blow : Cond) ∈ tbl := tbl_t6 41 rfl rfl
theorem tw_1337 : (Cond.selects RX11 yX11_blow yX11_blow : Cond) ∈ tbl := tbl_t6 42 rfl rfl
theorem tw_1338 : (Cond.code yX11_blow cX11_blow 7 (some .int) : Cond) ∈ tbl := tbl_t6 43 rfl rfl
theorem tw_1339 : (Cond.methodLink RX11 304 yX11_canBlow : Cond) ∈ tbl := tbl_t6 44 rfl rfl
theorem tw_1341 : (Cond.instanceMethod yX11_canBlow : Cond) ∈ tbl := tbl_t6 46 rfl rfl
theorem tw_1342 : (Cond.code yX11_canBlow cX11_canBlow 4 (some .boolean) : Cond) ∈ tbl := tbl_t6 47 rfl rfl
theorem tw_1343 : (Cond.methodLink RX11 299 yX11_isLaw : Cond) ∈ tbl := tbl_t6 48 rfl rfl
theorem tw_1345 : (Cond.instanceMethod yX11_isLaw : Cond) ∈ tbl := tbl_t6 50 rfl rfl
theorem tw_1346 : (Cond.code yX11_isLaw cX11_isLaw 2 (some .boolean) : Cond) ∈ tbl := tbl_t6 51 rfl rfl
theorem tw_1347 : (Cond.constantLong RX11 302 (24) : Cond) ∈ tbl := tbl_t6 52 rfl rfl
theorem tw_1348 : (Cond.methodLink RX11 308 yX11_goesTo : Cond) ∈ tbl := tbl_t6 53 rfl rfl
theorem tw_1350 : (Cond.instanceMethod yX11_goesTo : Cond) ∈ tbl := tbl_t6 55 rfl rfl
theorem tw_1351 : (Cond.code yX11_goesTo cX11_goesTo 11 (some .int) : Cond) ∈ tbl := tbl_t6 56 rfl rfl
theorem tw_1352 : (Cond.methodLink RX11 293 yX11_off : Cond) ∈ tbl := tbl_t6 57 rfl rfl
theorem tw_1353 : (Cond.static yX11_off : Cond) ∈ tbl := tbl_t6 58 rfl rfl
theorem tw_1354 : (Cond.code yX11_off cX11_off 3 (some .int) : Cond) ∈ tbl := tbl_t6 59 rfl rfl
theorem tw_1355 : (Cond.methodLink RX11 296 yX11_turnsBy : Cond) ∈ tbl := tbl_t6 60 rfl rfl
theorem tw_1357 : (Cond.instanceMethod yX11_turnsBy : Cond) ∈ tbl := tbl_t6 62 rfl rfl
theorem tw_1358 : (Cond.code yX11_turnsBy cX11_turnsBy 7 (some .int) : Cond) ∈ tbl := tbl_t6 63 rfl rfl
theorem tw_1359 : (Cond.methodLink RX11 289 yX11_reckons : Cond) ∈ tbl := tbl_t6 64 rfl rfl
theorem tw_1361 : (Cond.instanceMethod yX11_reckons : Cond) ∈ tbl := tbl_t6 66 rfl rfl
theorem tw_1362 : (Cond.code yX11_reckons cX11_reckons 11 (some .long) : Cond) ∈ tbl := tbl_t6 67 rfl rfl
theorem tw_1363 : (Cond.methodLink RX11 245 yX11_push : Cond) ∈ tbl := tbl_t6 68 rfl rfl
theorem tw_1365 : (Cond.instanceMethod yX11_push : Cond) ∈ tbl := tbl_t6 70 rfl rfl
theorem tw_1366 : (Cond.code yX11_push cX11_push 3 none : Cond) ∈ tbl := tbl_t6 71 rfl rfl
theorem tw_1367 : (Cond.methodLink RX11 249 yX11_pop : Cond) ∈ tbl := tbl_t6 72 rfl rfl
theorem tw_1369 : (Cond.instanceMethod yX11_pop : Cond) ∈ tbl := tbl_t6 74 rfl rfl
theorem tw_1370 : (Cond.code yX11_pop cX11_pop 1 (some .long) : Cond) ∈ tbl := tbl_t6 75 rfl rfl
theorem tw_1371 : (Cond.methodLink RX11 253 yX11_one : Cond) ∈ tbl := tbl_t6 76 rfl rfl
theorem tw_1372 : (Cond.static yX11_one : Cond) ∈ tbl := tbl_t6 77 rfl rfl
theorem tw_1373 : (Cond.code yX11_one cX11_one 5 (some .long) : Cond) ∈ tbl := tbl_t6 78 rfl rfl
theorem tw_1375 : (Cond.instanceMethod yX11_bend : Cond) ∈ tbl := tbl_t6 80 rfl rfl
theorem tw_1376 : (Cond.selects RX11 yX11_bend yX11_bend : Cond) ∈ tbl := tbl_t6 81 rfl rfl
theorem tw_1377 : (Cond.code yX11_bend cX11_bend 4 (some .int) : Cond) ∈ tbl := tbl_t6 82 rfl rfl
theorem tw_1378 : (Cond.methodLink RX11 312 yX11_bendCost : Cond) ∈ tbl := tbl_t6 83 rfl rfl
theorem tw_1380 : (Cond.instanceMethod yX11_bendCost : Cond) ∈ tbl := tbl_t6 85 rfl rfl
theorem tw_1381 : (Cond.code yX11_bendCost cX11_bendCost 4 (some .int) : Cond) ∈ tbl := tbl_t6 86 rfl rfl
theorem tw_1383 : (Cond.instanceMethod yX11_oil : Cond) ∈ tbl := tbl_t6 88 rfl rfl
theorem tw_1384 : (Cond.selects RX11 yX11_oil yX11_oil : Cond) ∈ tbl := tbl_t6 89 rfl rfl
theorem tw_1385 : (Cond.code yX11_oil cX11_oil 2 (some .int) : Cond) ∈ tbl := tbl_t6 90 rfl rfl
theorem tw_1386 : (Cond.methodLink RX11 315 yX11_rusts : Cond) ∈ tbl := tbl_t6 91 rfl rfl
theorem tw_1387 : (Cond.instanceMethod yX11_rusts : Cond) ∈ tbl := tbl_t6 92 rfl rfl
theorem tw_1388 : (Cond.selects RX11 yX11_rusts yX11_rusts : Cond) ∈ tbl := tbl_t6 93 rfl rfl
theorem tw_1389 : (Cond.code yX11_rusts cX11_rusts 4 (some .int) : Cond) ∈ tbl := tbl_t6 94 rfl rfl
theorem tw_1390 : (Cond.constantLong RX11 318 (9) : Cond) ∈ tbl := tbl_t6 95 rfl rfl
theorem tw_1393 : (Cond.instanceMethod yX11_fell : Cond) ∈ tbl := tbl_t6 98 rfl rfl
theorem tw_1394 : (Cond.selects RX11 yX11_fell yX11_fell : Cond) ∈ tbl := tbl_t6 99 rfl rfl
theorem tw_1395 : (Cond.code yX11_fell cX11_fell 3 (some .boolean) : Cond) ∈ tbl := tbl_t6 100 rfl rfl
theorem tw_1397 : (Cond.instanceMethod yX11_morning : Cond) ∈ tbl := tbl_t6 102 rfl rfl
theorem tw_1398 : (Cond.selects RX11 yX11_morning yX11_morning : Cond) ∈ tbl := tbl_t6 103 rfl rfl
theorem tw_1399 : (Cond.code yX11_morning cX11_morning 3 (some .int) : Cond) ∈ tbl := tbl_t6 104 rfl rfl
theorem tw_1401 : (Cond.instanceMethod yX11_vote : Cond) ∈ tbl := tbl_t6 106 rfl rfl
theorem tw_1402 : (Cond.selects RX11 yX11_vote yX11_vote : Cond) ∈ tbl := tbl_t6 107 rfl rfl
theorem tw_1403 : (Cond.code yX11_vote cX11_vote 2 (some .int) : Cond) ∈ tbl := tbl_t6 108 rfl rfl
theorem tw_1404 : (Cond.methodLink RX11 346 yX11_isWay : Cond) ∈ tbl := tbl_t6 109 rfl rfl
theorem tw_1405 : (Cond.static yX11_isWay : Cond) ∈ tbl := tbl_t6 110 rfl rfl
theorem tw_1406 : (Cond.code yX11_isWay cX11_isWay 1 (some .boolean) : Cond) ∈ tbl := tbl_t6 111 rfl rfl
theorem tw_1407 : (Cond.methodLink RX11 349 yX11_asTheyAre : Cond) ∈ tbl := tbl_t6 112 rfl rfl
theorem tw_1409 : (Cond.instanceMethod yX11_asTheyAre : Cond) ∈ tbl := tbl_t6 114 rfl rfl
theorem tw_1410 : (Cond.code yX11_asTheyAre cX11_asTheyAre 2 none : Cond) ∈ tbl := tbl_t6 115 rfl rfl
theorem tw_1411 : (Cond.methodLink RX11 352 yX11_votes : Cond) ∈ tbl := tbl_t6 116 rfl rfl
theorem tw_1413 : (Cond.instanceMethod yX11_votes : Cond) ∈ tbl := tbl_t6 118 rfl rfl
theorem tw_1414 : (Cond.code yX11_votes cX11_votes 2 (some .int) : Cond) ∈ tbl := tbl_t6 119 rfl rfl
theorem tw_1415 : (Cond.methodLink RX11 336 yX11_byMost : Cond) ∈ tbl := tbl_t6 120 rfl rfl
theorem tw_1417 : (Cond.instanceMethod yX11_byMost : Cond) ∈ tbl := tbl_t6 122 rfl rfl
theorem tw_1418 : (Cond.code yX11_byMost cX11_byMost 5 (some .int) : Cond) ∈ tbl := tbl_t6 123 rfl rfl
theorem tw_1419 : (Cond.methodLink RX11 320 yX11_counts : Cond) ∈ tbl := tbl_t6 124 rfl rfl
theorem tw_1421 : (Cond.instanceMethod yX11_counts : Cond) ∈ tbl := tbl_t6 126 rfl rfl
theorem tw_1422 : (Cond.code yX11_counts cX11_counts 3 none : Cond) ∈ tbl := tbl_t6 127 rfl rfl
theorem tw_1423 : (Cond.methodLink RX11 324 yX11_greatest : Cond) ∈ tbl := tbl_t6 128 rfl rfl
theorem tw_1425 : (Cond.instanceMethod yX11_greatest : Cond) ∈ tbl := tbl_t6 130 rfl rfl
theorem tw_1426 : (Cond.code yX11_greatest cX11_greatest 3 (some .int) : Cond) ∈ tbl := tbl_t6 131 rfl rfl
theorem tw_1427 : (Cond.methodLink RX11 340 yX11_byMiddle : Cond) ∈ tbl := tbl_t6 132 rfl rfl
theorem tw_1429 : (Cond.instanceMethod yX11_byMiddle : Cond) ∈ tbl := tbl_t6 134 rfl rfl
theorem tw_1430 : (Cond.code yX11_byMiddle cX11_byMiddle 4 (some .int) : Cond) ∈ tbl := tbl_t6 135 rfl rfl
theorem tw_1431 : (Cond.methodLink RX11 343 yX11_byStriking : Cond) ∈ tbl := tbl_t6 136 rfl rfl
theorem tw_1433 : (Cond.instanceMethod yX11_byStriking : Cond) ∈ tbl := tbl_t6 138 rfl rfl
theorem tw_1434 : (Cond.code yX11_byStriking cX11_byStriking 3 (some .int) : Cond) ∈ tbl := tbl_t6 139 rfl rfl
theorem tw_1435 : (Cond.methodLink RX11 327 yX11_pointsSaid : Cond) ∈ tbl := tbl_t6 140 rfl rfl
theorem tw_1437 : (Cond.instanceMethod yX11_pointsSaid : Cond) ∈ tbl := tbl_t6 142 rfl rfl
theorem tw_1438 : (Cond.code yX11_pointsSaid cX11_pointsSaid 3 (some .int) : Cond) ∈ tbl := tbl_t6 143 rfl rfl
theorem tw_1439 : (Cond.methodLink RX11 330 yX11_worst : Cond) ∈ tbl := tbl_t6 144 rfl rfl
theorem tw_1441 : (Cond.instanceMethod yX11_worst : Cond) ∈ tbl := tbl_t6 146 rfl rfl
theorem tw_1442 : (Cond.code yX11_worst cX11_worst 3 (some .int) : Cond) ∈ tbl := tbl_t6 147 rfl rfl
theorem tw_1443 : (Cond.methodLink RX11 333 yX11_nearest : Cond) ∈ tbl := tbl_t6 148 rfl rfl
theorem tw_1445 : (Cond.instanceMethod yX11_nearest : Cond) ∈ tbl := tbl_t6 150 rfl rfl
theorem tw_1446 : (Cond.code yX11_nearest cX11_nearest 3 (some .int) : Cond) ∈ tbl := tbl_t6 151 rfl rfl
theorem tw_1448 : (Cond.instanceMethod yX11_says : Cond) ∈ tbl := tbl_t6 153 rfl rfl
theorem tw_1449 : (Cond.selects RX11 yX11_says yX11_says : Cond) ∈ tbl := tbl_t6 154 rfl rfl
theorem tw_1450 : (Cond.code yX11_says cX11_says 2 (some .int) : Cond) ∈ tbl := tbl_t6 155 rfl rfl
theorem tw_1452 : (Cond.instanceMethod yX11_cheapest : Cond) ∈ tbl := tbl_t6 157 rfl rfl
theorem tw_1453 : (Cond.selects RX11 yX11_cheapest yX11_cheapest : Cond) ∈ tbl := tbl_t6 158 rfl rfl
theorem tw_1454 : (Cond.code yX11_cheapest cX11_cheapest 6 (some .int) : Cond) ∈ tbl := tbl_t6 159 rfl rfl
theorem tw_1455 : (Cond.methodLink RX11 370 yX11_canBuy : Cond) ∈ tbl := tbl_t6 160 rfl rfl
theorem tw_1457 : (Cond.instanceMethod yX11_canBuy : Cond) ∈ tbl := tbl_t6 162 rfl rfl
theorem tw_1458 : (Cond.code yX11_canBuy cX11_canBuy 4 (some .boolean) : Cond) ∈ tbl := tbl_t6 163 rfl rfl
theorem tw_1459 : (Cond.methodLink RX11 367 yX11_isSet : Cond) ∈ tbl := tbl_t6 164 rfl rfl
theorem tw_1461 : (Cond.instanceMethod yX11_isSet : Cond) ∈ tbl := tbl_t6 166 rfl rfl
theorem tw_1462 : (Cond.code yX11_isSet cX11_isSet 2 (some .boolean) : Cond) ∈ tbl := tbl_t6 167 rfl rfl
theorem tw_1463 : (Cond.methodLink RX11 373 yX11_keepsRow : Cond) ∈ tbl := tbl_t6 168 rfl rfl
theorem tw_1465 : (Cond.instanceMethod yX11_keepsRow : Cond) ∈ tbl := tbl_t6 170 rfl rfl
theorem tw_1466 : (Cond.code yX11_keepsRow cX11_keepsRow 2 none : Cond) ∈ tbl := tbl_t6 171 rfl rfl
theorem tw_1467 : (Cond.methodLink RX11 376 yX11_cheapestSet : Cond) ∈ tbl := tbl_t6 172 rfl rfl
theorem tw_1469 : (Cond.instanceMethod yX11_cheapestSet : Cond) ∈ tbl := tbl_t6 174 rfl rfl
theorem tw_1470 : (Cond.code yX11_cheapestSet cX11_cheapestSet 7 (some .int) : Cond) ∈ tbl := tbl_t6 175 rfl rfl
theorem tw_1471 : (Cond.methodLink RX11 358 yX11_bends : Cond) ∈ tbl := tbl_t6 176 rfl rfl
theorem tw_1473 : (Cond.instanceMethod yX11_bends : Cond) ∈ tbl := tbl_t6 178 rfl rfl
theorem tw_1474 : (Cond.code yX11_bends cX11_bends 5 (some .int) : Cond) ∈ tbl := tbl_t6 179 rfl rfl
theorem tw_1475 : (Cond.methodLink RX11 355 yX11_isOf : Cond) ∈ tbl := tbl_t6 180 rfl rfl
theorem tw_1476 : (Cond.static yX11_isOf : Cond) ∈ tbl := tbl_t6 181 rfl rfl
theorem tw_1477 : (Cond.code yX11_isOf cX11_isOf 2 (some .boolean) : Cond) ∈ tbl := tbl_t6 182 rfl rfl
theorem tw_1478 : (Cond.methodLink RX11 364 yX11_bits : Cond) ∈ tbl := tbl_t6 183 rfl rfl
theorem tw_1479 : (Cond.static yX11_bits : Cond) ∈ tbl := tbl_t6 184 rfl rfl
theorem tw_1480 : (Cond.code yX11_bits cX11_bits 3 (some .int) : Cond) ∈ tbl := tbl_t6 185 rfl rfl
theorem tw_1482 : (Cond.instanceMethod yX11_answer : Cond) ∈ tbl := tbl_t6 187 rfl rfl
theorem tw_1483 : (Cond.selects RX11 yX11_answer yX11_answer : Cond) ∈ tbl := tbl_t6 188 rfl rfl
theorem tw_1484 : (Cond.code yX11_answer cX11_answer 8 (some .int) : Cond) ∈ tbl := tbl_t6 189 rfl rfl
theorem tw_1486 : (Cond.instanceMethod yX11_bought : Cond) ∈ tbl := tbl_t6 191 rfl rfl
theorem tw_1487 : (Cond.selects RX11 yX11_bought yX11_bought : Cond) ∈ tbl := tbl_t6 192 rfl rfl
theorem tw_1488 : (Cond.code yX11_bought cX11_bought 6 (some .int) : Cond) ∈ tbl := tbl_t6 193 rfl rfl
theorem tw_1489 : (Cond.constantLong RX11 379 (12) : Cond) ∈ tbl := tbl_t6 194 rfl rfl
theorem tw_1491 : (Cond.instanceMethod yX11_swings : Cond) ∈ tbl := tbl_t6 196 rfl rfl
theorem tw_1492 : (Cond.selects RX11 yX11_swings yX11_swings : Cond) ∈ tbl := tbl_t6 197 rfl rfl
theorem tw_1493 : (Cond.code yX11_swings cX11_swings 8 (some .int) : Cond) ∈ tbl := tbl_t6 198 rfl rfl
theorem tw_1495 : (Cond.instanceMethod yX11_explained : Cond) ∈ tbl := tbl_t6 200 rfl rfl
theorem tw_1496 : (Cond.selects RX11 yX11_explained yX11_explained : Cond) ∈ tbl := tbl_t6 201 rfl rfl
theorem tw_1497 : (Cond.code yX11_explained cX11_explained 6 (some .int) : Cond) ∈ tbl := tbl_t6 202 rfl rfl
theorem tw_1498 : (Cond.methodLink RX11 381 yX11_canExplain : Cond) ∈ tbl := tbl_t6 203 rfl rfl
theorem tw_1500 : (Cond.instanceMethod yX11_canExplain : Cond) ∈ tbl := tbl_t6 205 rfl rfl
theorem tw_1501 : (Cond.code yX11_canExplain cX11_canExplain 3 (some .boolean) : Cond) ∈ tbl := tbl_t6 206 rfl rfl
theorem tw_1502 : (Cond.methodLink RX11 384 yX11_explains : Cond) ∈ tbl := tbl_t6 207 rfl rfl
theorem tw_1504 : (Cond.instanceMethod yX11_explains : Cond) ∈ tbl := tbl_t6 209 rfl rfl
theorem tw_1505 : (Cond.code yX11_explains cX11_explains 5 (some .boolean) : Cond) ∈ tbl := tbl_t6 210 rfl rfl
theorem tw_1507 : (Cond.instanceMethod yX11_trueWind : Cond) ∈ tbl := tbl_t6 212 rfl rfl
theorem tw_1508 : (Cond.selects RX11 yX11_trueWind yX11_trueWind : Cond) ∈ tbl := tbl_t6 213 rfl rfl
theorem tw_1509 : (Cond.code yX11_trueWind cX11_trueWind 10 (some .int) : Cond) ∈ tbl := tbl_t6 214 rfl rfl
theorem tw_1511 : (Cond.instanceMethod yX11_after : Cond) ∈ tbl := tbl_t6 216 rfl rfl
theorem tw_1512 : (Cond.selects RX11 yX11_after yX11_after : Cond) ∈ tbl := tbl_t6 217 rfl rfl
theorem tw_1513 : (Cond.code yX11_after cX11_after 7 (some .int) : Cond) ∈ tbl := tbl_t6 218 rfl rfl
theorem tw_1514 : (Cond.methodLink RX11 388 yX11_goes : Cond) ∈ tbl := tbl_t6 219 rfl rfl
theorem tw_1516 : (Cond.instanceMethod yX11_goes : Cond) ∈ tbl := tbl_t6 221 rfl rfl
theorem tw_1517 : (Cond.code yX11_goes cX11_goes 6 none : Cond) ∈ tbl := tbl_t6 222 rfl rfl
theorem tw_1519 : (Cond.instanceMethod yX11_felled : Cond) ∈ tbl := tbl_t6 224 rfl rfl
theorem tw_1520 : (Cond.selects RX11 yX11_felled yX11_felled : Cond) ∈ tbl := tbl_t6 225 rfl rfl
theorem tw_1521 : (Cond.code yX11_felled cX11_felled 6 (some .int) : Cond) ∈ tbl := tbl_t6 226 rfl rfl
theorem tw_1523 : (Cond.instanceMethod yX11_oiled : Cond) ∈ tbl := tbl_t6 228 rfl rfl
theorem tw_1524 : (Cond.selects RX11 yX11_oiled yX11_oiled : Cond) ∈ tbl := tbl_t6 229 rfl rfl
theorem tw_1525 : (Cond.code yX11_oiled cX11_oiled 11 (some .int) : Cond) ∈ tbl := tbl_t6 230 rfl rfl
theorem tw_1527 : (Cond.instanceMethod yX11_bestPoint : Cond) ∈ tbl := tbl_t6 232 rfl rfl
theorem tw_1528 : (Cond.selects RX11 yX11_bestPoint yX11_bestPoint : Cond) ∈ tbl := tbl_t6 233 rfl rfl
theorem tw_1529 : (Cond.code yX11_bestPoint cX11_bestPoint 12 (some .int) : Cond) ∈ tbl := tbl_t6 234 rfl rfl
theorem tw_1530 : (Cond.constantLong RX11 392 (9999) : Cond) ∈ tbl := tbl_t6 235 rfl rfl
theorem tw_1531 : (Cond.methodLink RX11 394 yX11_worth : Cond) ∈ tbl := tbl_t6 236 rfl rfl
theorem tw_1533 : (Cond.instanceMethod yX11_seed : Cond) ∈ tbl := tbl_t6 238 rfl rfl
theorem tw_1534 : (Cond.selects RX11 yX11_seed yX11_seed : Cond) ∈ tbl := tbl_t6 239 rfl rfl
theorem tw_1535 : (Cond.code yX11_seed cX11_seed 3 (some .int) : Cond) ∈ tbl := tbl_t7 0 rfl rfl
theorem tw_1537 : (Cond.instanceMethod yX11_lot : Cond) ∈ tbl := tbl_t7 2 rfl rfl
theorem tw_1538 : (Cond.selects RX11 yX11_lot yX11_lot : Cond) ∈ tbl := tbl_t7 3 rfl rfl
theorem tw_1539 : (Cond.code yX11_lot cX11_lot 1 (some .int) : Cond) ∈ tbl := tbl_t7 4 rfl rfl
theorem tw_1540 : (Cond.constantLong RX11 397 (1103515245) : Cond) ∈ tbl := tbl_t7 5 rfl rfl
theorem tw_1541 : (Cond.constantLong RX11 399 (12345) : Cond) ∈ tbl := tbl_t7 6 rfl rfl
theorem tw_1542 : (Cond.constantLong RX11 401 (2147483648) : Cond) ∈ tbl := tbl_t7 7 rfl rfl
theorem tw_1543 : (Cond.constant RX11 403 (65536) : Cond) ∈ tbl := tbl_t7 8 rfl rfl
theorem tw_1545 : (Cond.instanceMethod yX11_years : Cond) ∈ tbl := tbl_t7 10 rfl rfl
theorem tw_1546 : (Cond.selects RX11 yX11_years yX11_years : Cond) ∈ tbl := tbl_t7 11 rfl rfl
theorem tw_1547 : (Cond.code yX11_years cX11_years 13 (some .int) : Cond) ∈ tbl := tbl_t7 12 rfl rfl
theorem tw_1548 : (Cond.constantLong RX11 404 (366) : Cond) ∈ tbl := tbl_t7 13 rfl rfl
theorem tw_1549 : (Cond.constantLong RX11 406 (7) : Cond) ∈ tbl := tbl_t7 14 rfl rfl
theorem tw_1550 : (Cond.constantLong RX11 408 (65536) : Cond) ∈ tbl := tbl_t7 15 rfl rfl
theorem tw_1551 : (Cond.constantLong RX11 410 (8) : Cond) ∈ tbl := tbl_t7 16 rfl rfl
theorem tw_1553 : (Cond.instanceMethod yX11_count : Cond) ∈ tbl := tbl_t7 18 rfl rfl
theorem tw_1554 : (Cond.selects RX11 yX11_count yX11_count : Cond) ∈ tbl := tbl_t7 19 rfl rfl
theorem tw_1555 : (Cond.code yX11_count cX11_count 4 (some .int) : Cond) ∈ tbl := tbl_t7 20 rfl rfl
theorem tw_1557 : (Cond.instanceMethod yX11_image : Cond) ∈ tbl := tbl_t7 22 rfl rfl
theorem tw_1558 : (Cond.selects RX11 yX11_image yX11_image : Cond) ∈ tbl := tbl_t7 23 rfl rfl
theorem tw_1559 : (Cond.code yX11_image cX11_image 3 (some .int) : Cond) ∈ tbl := tbl_t7 24 rfl rfl
theorem tw_1561 : (Cond.instanceMethod yX11_back : Cond) ∈ tbl := tbl_t7 26 rfl rfl
theorem tw_1562 : (Cond.selects RX11 yX11_back yX11_back : Cond) ∈ tbl := tbl_t7 27 rfl rfl
theorem tw_1563 : (Cond.code yX11_back cX11_back 3 (some .int) : Cond) ∈ tbl := tbl_t7 28 rfl rfl
set_option maxRecDepth 20000 in
theorem tw_oi : Cond.instanceMethod Lib.objectInit ∈ tbl := by decide +kernel
set_option maxRecDepth 20000 in
theorem tw_oc : Cond.code Lib.objectInit ⟨#[0xb1]⟩ 1 none ∈ tbl := by decide +kernel
set_option maxRecDepth 20000 in
theorem tw_ac1 : Cond.native arraycopyName ∈ tbl := by decide +kernel
set_option maxRecDepth 20000 in
theorem tw_ac2 : Cond.static arraycopyName ∈ tbl := by decide +kernel
set_option maxRecDepth 20000 in
theorem tw_ac3 : Cond.initialized "java/lang/System" ∈ tbl := by decide +kernel
set_option maxRecDepth 20000 in
theorem ac_I : Cond.arrayClass .int ∈ tbl := by decide +kernel
set_option maxRecDepth 20000 in
theorem ac_B : Cond.arrayClass .byte ∈ tbl := by decide +kernel
set_option maxRecDepth 20000 in
theorem ac_J : Cond.arrayClass .long ∈ tbl := by decide +kernel
set_option maxRecDepth 20000 in
theorem ac_Z : Cond.arrayClass .boolean ∈ tbl := by decide +kernel
theorem fl_X10_10 : FL RX10 10 10 0 true (.object "MostCocks$Tape") := ⟨RX10, TX10, 14, rfl, by decide, rfl, by decide, by decide, tbl_t2 76 rfl rfl, by decide +kernel⟩
theorem fl_X10_19 : FL RX10 19 10 1 true (.object "MostCocks$Tokens") := ⟨RX10, TX10, 14, rfl, by decide, rfl, by decide, by decide, tbl_t2 77 rfl rfl, by decide +kernel⟩
theorem fl_X10_28 : FL RX10 28 10 2 true (.object "MostCocks$ValleyReader") := ⟨RX10, TX10, 14, rfl, by decide, rfl, by decide, by decide, tbl_t2 78 rfl rfl, by decide +kernel⟩
theorem fl_X10_35 : FL RX10 35 10 3 true (.object "MostCocks$LawReader") := ⟨RX10, TX10, 14, rfl, by decide, rfl, by decide, by decide, tbl_t2 79 rfl rfl, by decide +kernel⟩
theorem fl_X10_42 : FL RX10 42 10 4 true (.object "MostCocks$Valley") := ⟨RX10, TX10, 14, rfl, by decide, rfl, by decide, by decide, tbl_t2 80 rfl rfl, by decide +kernel⟩
theorem fl_X10_46 : FL RX10 46 10 5 true (.object "MostCocks$Valley") := ⟨RX10, TX10, 14, rfl, by decide, rfl, by decide, by decide, tbl_t2 81 rfl rfl, by decide +kernel⟩
theorem fl_X10_49 : FL RX10 49 10 6 true (.array (.object "MostCocks$Valley")) := ⟨RX10, TX10, 14, rfl, by decide, rfl, by decide, by decide, tbl_t2 82 rfl rfl, by decide +kernel⟩
theorem fl_X10_55 : FL RX10 55 10 7 true (.array (.object "MostCocks$Law")) := ⟨RX10, TX10, 14, rfl, by decide, rfl, by decide, by decide, tbl_t2 83 rfl rfl, by decide +kernel⟩
theorem fl_X10_59 : FL RX10 59 10 8 false .int := ⟨RX10, TX10, 14, rfl, by decide, rfl, by decide, by decide, tbl_t2 84 rfl rfl, by decide +kernel⟩
theorem fl_X10_66 : FL RX10 66 10 9 true (.object "MostCocks$Weather") := ⟨RX10, TX10, 14, rfl, by decide, rfl, by decide, by decide, tbl_t2 85 rfl rfl, by decide +kernel⟩
theorem fl_X10_73 : FL RX10 73 10 10 true (.object "MostCocks$Ballot") := ⟨RX10, TX10, 14, rfl, by decide, rfl, by decide, by decide, tbl_t2 86 rfl rfl, by decide +kernel⟩
theorem fl_X10_82 : FL RX10 82 10 11 true (.object "MostCocks$Search") := ⟨RX10, TX10, 14, rfl, by decide, rfl, by decide, by decide, tbl_t2 87 rfl rfl, by decide +kernel⟩
theorem fl_X10_91 : FL RX10 91 10 12 true (.object "MostCocks$Almanac") := ⟨RX10, TX10, 14, rfl, by decide, rfl, by decide, by decide, tbl_t2 88 rfl rfl, by decide +kernel⟩
theorem fl_X10_95 : FL RX10 95 10 13 true (.array .int) := ⟨RX10, TX10, 14, rfl, by decide, rfl, by decide, by decide, tbl_t2 89 rfl rfl, by decide +kernel⟩
theorem fl_X10_100 : FL RX10 100 5 1 false .int := ⟨RX5, TX5, 2, rfl, by decide, rfl, by decide, by decide, tbl_t1 36 rfl rfl, by decide +kernel⟩
theorem fl_X10_115 : FL RX10 115 6 5 false .int := ⟨RX6, TX6, 6, rfl, by decide, rfl, by decide, by decide, tbl_t1 56 rfl rfl, by decide +kernel⟩
theorem fl_X10_121 : FL RX10 121 7 13 false .int := ⟨RX7, TX7, 14, rfl, by decide, rfl, by decide, by decide, tbl_t1 168 rfl rfl, by decide +kernel⟩
theorem fl_X10_128 : FL RX10 128 7 0 false .int := ⟨RX7, TX7, 14, rfl, by decide, rfl, by decide, by decide, tbl_t1 124 rfl rfl, by decide +kernel⟩
theorem fl_X10_138 : FL RX10 138 7 1 true (.array .int) := ⟨RX7, TX7, 14, rfl, by decide, rfl, by decide, by decide, tbl_t1 127 rfl rfl, by decide +kernel⟩
theorem fl_X10_141 : FL RX10 141 7 2 true (.array .int) := ⟨RX7, TX7, 14, rfl, by decide, rfl, by decide, by decide, tbl_t1 130 rfl rfl, by decide +kernel⟩
theorem fl_X10_144 : FL RX10 144 7 3 true (.array .int) := ⟨RX7, TX7, 14, rfl, by decide, rfl, by decide, by decide, tbl_t1 135 rfl rfl, by decide +kernel⟩
theorem fl_X10_147 : FL RX10 147 7 4 true (.array .int) := ⟨RX7, TX7, 14, rfl, by decide, rfl, by decide, by decide, tbl_t1 140 rfl rfl, by decide +kernel⟩
theorem fl_X10_150 : FL RX10 150 7 5 true (.array .int) := ⟨RX7, TX7, 14, rfl, by decide, rfl, by decide, by decide, tbl_t1 144 rfl rfl, by decide +kernel⟩
theorem fl_X10_153 : FL RX10 153 7 6 true (.array .int) := ⟨RX7, TX7, 14, rfl, by decide, rfl, by decide, by decide, tbl_t1 150 rfl rfl, by decide +kernel⟩
theorem fl_X10_156 : FL RX10 156 7 7 true (.array .int) := ⟨RX7, TX7, 14, rfl, by decide, rfl, by decide, by decide, tbl_t1 152 rfl rfl, by decide +kernel⟩
theorem fl_X10_162 : FL RX10 162 7 9 true (.array .int) := ⟨RX7, TX7, 14, rfl, by decide, rfl, by decide, by decide, tbl_t1 158 rfl rfl, by decide +kernel⟩
theorem fl_X10_165 : FL RX10 165 7 10 true (.array .int) := ⟨RX7, TX7, 14, rfl, by decide, rfl, by decide, by decide, tbl_t1 161 rfl rfl, by decide +kernel⟩
theorem fl_X10_168 : FL RX10 168 7 11 false .int := ⟨RX7, TX7, 14, rfl, by decide, rfl, by decide, by decide, tbl_t1 164 rfl rfl, by decide +kernel⟩
theorem fl_X10_226 : FL RX10 226 4 6 false .boolean := ⟨RX4, TX4, 9, rfl, by decide, rfl, by decide, by decide, tbl_t2 17 rfl rfl, by decide +kernel⟩
theorem fl_X10_236 : FL RX10 236 4 7 false .int := ⟨RX4, TX4, 9, rfl, by decide, rfl, by decide, by decide, tbl_t2 19 rfl rfl, by decide +kernel⟩
theorem fl_X10_262 : FL RX10 262 7 8 false .int := ⟨RX7, TX7, 14, rfl, by decide, rfl, by decide, by decide, tbl_t1 155 rfl rfl, by decide +kernel⟩
theorem fl_X10_265 : FL RX10 265 4 1 true (.array .int) := ⟨RX4, TX4, 9, rfl, by decide, rfl, by decide, by decide, tbl_t2 9 rfl rfl, by decide +kernel⟩
theorem fl_X10_271 : FL RX10 271 9 0 true (.array .int) := ⟨RX9, TX9, 2, rfl, by decide, rfl, by decide, by decide, tbl_t1 208 rfl rfl, by decide +kernel⟩
theorem fl_X10_274 : FL RX10 274 4 2 true (.array .int) := ⟨RX4, TX4, 9, rfl, by decide, rfl, by decide, by decide, tbl_t2 11 rfl rfl, by decide +kernel⟩
theorem fl_X10_281 : FL RX10 281 4 3 true (.array .int) := ⟨RX4, TX4, 9, rfl, by decide, rfl, by decide, by decide, tbl_t2 13 rfl rfl, by decide +kernel⟩
theorem fl_X10_298 : FL RX10 298 0 8 false .int := ⟨RX0, TX0, 9, rfl, by decide, rfl, by decide, by decide, tbl_t2 55 rfl rfl, by decide +kernel⟩
theorem fl_X0_9 : FL RX0 9 0 3 true (.array .int) := ⟨RX0, TX0, 9, rfl, by decide, rfl, by decide, by decide, tbl_t2 49 rfl rfl, by decide +kernel⟩
theorem fl_X0_15 : FL RX0 15 0 4 true (.array .int) := ⟨RX0, TX0, 9, rfl, by decide, rfl, by decide, by decide, tbl_t2 50 rfl rfl, by decide +kernel⟩
theorem fl_X0_18 : FL RX0 18 0 5 true (.object "MostCocks$Law") := ⟨RX0, TX0, 9, rfl, by decide, rfl, by decide, by decide, tbl_t2 51 rfl rfl, by decide +kernel⟩
theorem fl_X0_22 : FL RX0 22 0 6 false .int := ⟨RX0, TX0, 9, rfl, by decide, rfl, by decide, by decide, tbl_t2 52 rfl rfl, by decide +kernel⟩
theorem fl_X0_26 : FL RX0 26 0 7 false .int := ⟨RX0, TX0, 9, rfl, by decide, rfl, by decide, by decide, tbl_t2 53 rfl rfl, by decide +kernel⟩
theorem fl_X0_29 : FL RX0 29 0 8 false .int := ⟨RX0, TX0, 9, rfl, by decide, rfl, by decide, by decide, tbl_t2 54 rfl rfl, by decide +kernel⟩
theorem fl_X0_32 : FL RX0 32 0 0 true (.object "MostCocks$Valley") := ⟨RX0, TX0, 9, rfl, by decide, rfl, by decide, by decide, tbl_t2 46 rfl rfl, by decide +kernel⟩
theorem fl_X0_36 : FL RX0 36 0 1 true (.object "MostCocks$Weather") := ⟨RX0, TX0, 9, rfl, by decide, rfl, by decide, by decide, tbl_t2 47 rfl rfl, by decide +kernel⟩
theorem fl_X0_40 : FL RX0 40 0 2 true (.object "MostCocks$Ballot") := ⟨RX0, TX0, 9, rfl, by decide, rfl, by decide, by decide, tbl_t2 48 rfl rfl, by decide +kernel⟩
theorem fl_X0_44 : FL RX0 44 7 13 false .int := ⟨RX7, TX7, 14, rfl, by decide, rfl, by decide, by decide, tbl_t1 167 rfl rfl, by decide +kernel⟩
theorem fl_X0_47 : FL RX0 47 7 6 true (.array .int) := ⟨RX7, TX7, 14, rfl, by decide, rfl, by decide, by decide, tbl_t1 147 rfl rfl, by decide +kernel⟩
theorem fl_X0_61 : FL RX0 61 7 0 false .int := ⟨RX7, TX7, 14, rfl, by decide, rfl, by decide, by decide, tbl_t1 122 rfl rfl, by decide +kernel⟩
theorem fl_X0_77 : FL RX0 77 7 11 false .int := ⟨RX7, TX7, 14, rfl, by decide, rfl, by decide, by decide, tbl_t1 163 rfl rfl, by decide +kernel⟩
theorem fl_X1_9 : FL RX1 9 1 0 false .int := ⟨RX1, TX1, 6, rfl, by decide, rfl, by decide, by decide, tbl_t1 222 rfl rfl, by decide +kernel⟩
theorem fl_X1_15 : FL RX1 15 1 1 true (.array .int) := ⟨RX1, TX1, 6, rfl, by decide, rfl, by decide, by decide, tbl_t1 223 rfl rfl, by decide +kernel⟩
theorem fl_X1_19 : FL RX1 19 1 2 true (.array .int) := ⟨RX1, TX1, 6, rfl, by decide, rfl, by decide, by decide, tbl_t1 224 rfl rfl, by decide +kernel⟩
theorem fl_X1_22 : FL RX1 22 1 3 true (.array .int) := ⟨RX1, TX1, 6, rfl, by decide, rfl, by decide, by decide, tbl_t1 225 rfl rfl, by decide +kernel⟩
theorem fl_X1_25 : FL RX1 25 1 4 true (.array .int) := ⟨RX1, TX1, 6, rfl, by decide, rfl, by decide, by decide, tbl_t1 226 rfl rfl, by decide +kernel⟩
theorem fl_X1_28 : FL RX1 28 1 5 true (.array .int) := ⟨RX1, TX1, 6, rfl, by decide, rfl, by decide, by decide, tbl_t1 227 rfl rfl, by decide +kernel⟩
theorem fl_X1_31 : FL RX1 31 7 0 false .int := ⟨RX7, TX7, 14, rfl, by decide, rfl, by decide, by decide, tbl_t1 119 rfl rfl, by decide +kernel⟩
theorem fl_X1_40 : FL RX1 40 7 4 true (.array .int) := ⟨RX7, TX7, 14, rfl, by decide, rfl, by decide, by decide, tbl_t1 138 rfl rfl, by decide +kernel⟩
theorem fl_X2_9 : FL RX2 9 2 0 true (.array .int) := ⟨RX2, TX2, 2, rfl, by decide, rfl, by decide, by decide, tbl_t1 95 rfl rfl, by decide +kernel⟩
theorem fl_X2_15 : FL RX2 15 2 1 false .int := ⟨RX2, TX2, 2, rfl, by decide, rfl, by decide, by decide, tbl_t1 96 rfl rfl, by decide +kernel⟩
theorem fl_X3_12 : FL RX3 12 3 1 true (.object "MostCocks$Law") := ⟨RX3, TX3, 3, rfl, by decide, rfl, by decide, by decide, tbl_t1 103 rfl rfl, by decide +kernel⟩
theorem fl_X3_18 : FL RX3 18 3 2 false .int := ⟨RX3, TX3, 3, rfl, by decide, rfl, by decide, by decide, tbl_t1 104 rfl rfl, by decide +kernel⟩
theorem fl_X3_22 : FL RX3 22 3 0 true (.object "MostCocks$Tokens") := ⟨RX3, TX3, 3, rfl, by decide, rfl, by decide, by decide, tbl_t1 102 rfl rfl, by decide +kernel⟩
theorem fl_X4_9 : FL RX4 9 4 1 true (.array .int) := ⟨RX4, TX4, 9, rfl, by decide, rfl, by decide, by decide, tbl_t2 8 rfl rfl, by decide +kernel⟩
theorem fl_X4_15 : FL RX4 15 4 2 true (.array .int) := ⟨RX4, TX4, 9, rfl, by decide, rfl, by decide, by decide, tbl_t2 10 rfl rfl, by decide +kernel⟩
theorem fl_X4_18 : FL RX4 18 4 3 true (.array .int) := ⟨RX4, TX4, 9, rfl, by decide, rfl, by decide, by decide, tbl_t2 12 rfl rfl, by decide +kernel⟩
theorem fl_X4_21 : FL RX4 21 4 4 true (.array .int) := ⟨RX4, TX4, 9, rfl, by decide, rfl, by decide, by decide, tbl_t2 14 rfl rfl, by decide +kernel⟩
theorem fl_X4_24 : FL RX4 24 4 5 false .int := ⟨RX4, TX4, 9, rfl, by decide, rfl, by decide, by decide, tbl_t2 15 rfl rfl, by decide +kernel⟩
theorem fl_X4_28 : FL RX4 28 4 6 false .boolean := ⟨RX4, TX4, 9, rfl, by decide, rfl, by decide, by decide, tbl_t2 16 rfl rfl, by decide +kernel⟩
theorem fl_X4_32 : FL RX4 32 4 7 false .int := ⟨RX4, TX4, 9, rfl, by decide, rfl, by decide, by decide, tbl_t2 18 rfl rfl, by decide +kernel⟩
theorem fl_X4_35 : FL RX4 35 4 8 false .int := ⟨RX4, TX4, 9, rfl, by decide, rfl, by decide, by decide, tbl_t2 20 rfl rfl, by decide +kernel⟩
theorem fl_X4_38 : FL RX4 38 4 0 true (.object "MostCocks$Ballot") := ⟨RX4, TX4, 9, rfl, by decide, rfl, by decide, by decide, tbl_t2 7 rfl rfl, by decide +kernel⟩
theorem fl_X4_42 : FL RX4 42 7 6 true (.array .int) := ⟨RX7, TX7, 14, rfl, by decide, rfl, by decide, by decide, tbl_t1 146 rfl rfl, by decide +kernel⟩
theorem fl_X4_53 : FL RX4 53 7 0 false .int := ⟨RX7, TX7, 14, rfl, by decide, rfl, by decide, by decide, tbl_t1 121 rfl rfl, by decide +kernel⟩
theorem fl_X4_56 : FL RX4 56 7 3 true (.array .int) := ⟨RX7, TX7, 14, rfl, by decide, rfl, by decide, by decide, tbl_t1 133 rfl rfl, by decide +kernel⟩
theorem fl_X5_9 : FL RX5 9 5 0 true (.array .int) := ⟨RX5, TX5, 2, rfl, by decide, rfl, by decide, by decide, tbl_t1 34 rfl rfl, by decide +kernel⟩
theorem fl_X5_15 : FL RX5 15 5 1 false .int := ⟨RX5, TX5, 2, rfl, by decide, rfl, by decide, by decide, tbl_t1 35 rfl rfl, by decide +kernel⟩
theorem fl_X6_9 : FL RX6 9 6 0 true (.array .int) := ⟨RX6, TX6, 6, rfl, by decide, rfl, by decide, by decide, tbl_t1 50 rfl rfl, by decide +kernel⟩
theorem fl_X6_15 : FL RX6 15 6 1 true (.array .int) := ⟨RX6, TX6, 6, rfl, by decide, rfl, by decide, by decide, tbl_t1 51 rfl rfl, by decide +kernel⟩
theorem fl_X6_18 : FL RX6 18 6 2 true (.array .int) := ⟨RX6, TX6, 6, rfl, by decide, rfl, by decide, by decide, tbl_t1 52 rfl rfl, by decide +kernel⟩
theorem fl_X6_21 : FL RX6 21 6 3 false .int := ⟨RX6, TX6, 6, rfl, by decide, rfl, by decide, by decide, tbl_t1 53 rfl rfl, by decide +kernel⟩
theorem fl_X6_25 : FL RX6 25 6 4 false .int := ⟨RX6, TX6, 6, rfl, by decide, rfl, by decide, by decide, tbl_t1 54 rfl rfl, by decide +kernel⟩
theorem fl_X6_28 : FL RX6 28 6 5 false .int := ⟨RX6, TX6, 6, rfl, by decide, rfl, by decide, by decide, tbl_t1 55 rfl rfl, by decide +kernel⟩
theorem fl_X6_31 : FL RX6 31 5 1 false .int := ⟨RX5, TX5, 2, rfl, by decide, rfl, by decide, by decide, tbl_t1 37 rfl rfl, by decide +kernel⟩
theorem fl_X7_9 : FL RX7 9 7 0 false .int := ⟨RX7, TX7, 14, rfl, by decide, rfl, by decide, by decide, tbl_t1 118 rfl rfl, by decide +kernel⟩
theorem fl_X7_15 : FL RX7 15 7 1 true (.array .int) := ⟨RX7, TX7, 14, rfl, by decide, rfl, by decide, by decide, tbl_t1 125 rfl rfl, by decide +kernel⟩
theorem fl_X7_19 : FL RX7 19 7 2 true (.array .int) := ⟨RX7, TX7, 14, rfl, by decide, rfl, by decide, by decide, tbl_t1 128 rfl rfl, by decide +kernel⟩
theorem fl_X7_22 : FL RX7 22 7 3 true (.array .int) := ⟨RX7, TX7, 14, rfl, by decide, rfl, by decide, by decide, tbl_t1 131 rfl rfl, by decide +kernel⟩
theorem fl_X7_25 : FL RX7 25 7 4 true (.array .int) := ⟨RX7, TX7, 14, rfl, by decide, rfl, by decide, by decide, tbl_t1 136 rfl rfl, by decide +kernel⟩
theorem fl_X7_28 : FL RX7 28 7 5 true (.array .int) := ⟨RX7, TX7, 14, rfl, by decide, rfl, by decide, by decide, tbl_t1 141 rfl rfl, by decide +kernel⟩
theorem fl_X7_31 : FL RX7 31 7 6 true (.array .int) := ⟨RX7, TX7, 14, rfl, by decide, rfl, by decide, by decide, tbl_t1 145 rfl rfl, by decide +kernel⟩
theorem fl_X7_34 : FL RX7 34 7 7 true (.array .int) := ⟨RX7, TX7, 14, rfl, by decide, rfl, by decide, by decide, tbl_t1 151 rfl rfl, by decide +kernel⟩
theorem fl_X7_37 : FL RX7 37 7 8 false .int := ⟨RX7, TX7, 14, rfl, by decide, rfl, by decide, by decide, tbl_t1 153 rfl rfl, by decide +kernel⟩
theorem fl_X7_40 : FL RX7 40 7 9 true (.array .int) := ⟨RX7, TX7, 14, rfl, by decide, rfl, by decide, by decide, tbl_t1 156 rfl rfl, by decide +kernel⟩
theorem fl_X7_43 : FL RX7 43 7 10 true (.array .int) := ⟨RX7, TX7, 14, rfl, by decide, rfl, by decide, by decide, tbl_t1 159 rfl rfl, by decide +kernel⟩
theorem fl_X7_46 : FL RX7 46 7 11 false .int := ⟨RX7, TX7, 14, rfl, by decide, rfl, by decide, by decide, tbl_t1 162 rfl rfl, by decide +kernel⟩
theorem fl_X7_49 : FL RX7 49 7 12 true (.array .int) := ⟨RX7, TX7, 14, rfl, by decide, rfl, by decide, by decide, tbl_t1 165 rfl rfl, by decide +kernel⟩
theorem fl_X7_52 : FL RX7 52 7 13 false .int := ⟨RX7, TX7, 14, rfl, by decide, rfl, by decide, by decide, tbl_t1 166 rfl rfl, by decide +kernel⟩
theorem fl_X8_9 : FL RX8 9 8 1 false .int := ⟨RX8, TX8, 2, rfl, by decide, rfl, by decide, by decide, tbl_t1 77 rfl rfl, by decide +kernel⟩
theorem fl_X8_15 : FL RX8 15 8 0 true (.object "MostCocks$Tokens") := ⟨RX8, TX8, 2, rfl, by decide, rfl, by decide, by decide, tbl_t1 76 rfl rfl, by decide +kernel⟩
theorem fl_X8_34 : FL RX8 34 7 0 false .int := ⟨RX7, TX7, 14, rfl, by decide, rfl, by decide, by decide, tbl_t1 120 rfl rfl, by decide +kernel⟩
theorem fl_X8_44 : FL RX8 44 7 8 false .int := ⟨RX7, TX7, 14, rfl, by decide, rfl, by decide, by decide, tbl_t1 154 rfl rfl, by decide +kernel⟩
theorem fl_X8_57 : FL RX8 57 7 1 true (.array .int) := ⟨RX7, TX7, 14, rfl, by decide, rfl, by decide, by decide, tbl_t1 126 rfl rfl, by decide +kernel⟩
theorem fl_X8_65 : FL RX8 65 7 2 true (.array .int) := ⟨RX7, TX7, 14, rfl, by decide, rfl, by decide, by decide, tbl_t1 129 rfl rfl, by decide +kernel⟩
theorem fl_X8_68 : FL RX8 68 7 3 true (.array .int) := ⟨RX7, TX7, 14, rfl, by decide, rfl, by decide, by decide, tbl_t1 134 rfl rfl, by decide +kernel⟩
theorem fl_X8_71 : FL RX8 71 7 4 true (.array .int) := ⟨RX7, TX7, 14, rfl, by decide, rfl, by decide, by decide, tbl_t1 139 rfl rfl, by decide +kernel⟩
theorem fl_X8_74 : FL RX8 74 7 5 true (.array .int) := ⟨RX7, TX7, 14, rfl, by decide, rfl, by decide, by decide, tbl_t1 143 rfl rfl, by decide +kernel⟩
theorem fl_X8_77 : FL RX8 77 7 6 true (.array .int) := ⟨RX7, TX7, 14, rfl, by decide, rfl, by decide, by decide, tbl_t1 149 rfl rfl, by decide +kernel⟩
theorem fl_X8_80 : FL RX8 80 7 9 true (.array .int) := ⟨RX7, TX7, 14, rfl, by decide, rfl, by decide, by decide, tbl_t1 157 rfl rfl, by decide +kernel⟩
theorem fl_X8_83 : FL RX8 83 7 10 true (.array .int) := ⟨RX7, TX7, 14, rfl, by decide, rfl, by decide, by decide, tbl_t1 160 rfl rfl, by decide +kernel⟩
theorem fl_X9_9 : FL RX9 9 9 0 true (.array .int) := ⟨RX9, TX9, 2, rfl, by decide, rfl, by decide, by decide, tbl_t1 207 rfl rfl, by decide +kernel⟩
theorem fl_X9_17 : FL RX9 17 9 1 true (.array .long) := ⟨RX9, TX9, 2, rfl, by decide, rfl, by decide, by decide, tbl_t1 209 rfl rfl, by decide +kernel⟩
theorem fl_X9_27 : FL RX9 27 7 3 true (.array .int) := ⟨RX7, TX7, 14, rfl, by decide, rfl, by decide, by decide, tbl_t1 132 rfl rfl, by decide +kernel⟩
theorem fl_X9_30 : FL RX9 30 7 4 true (.array .int) := ⟨RX7, TX7, 14, rfl, by decide, rfl, by decide, by decide, tbl_t1 137 rfl rfl, by decide +kernel⟩
theorem fl_X9_33 : FL RX9 33 7 5 true (.array .int) := ⟨RX7, TX7, 14, rfl, by decide, rfl, by decide, by decide, tbl_t1 142 rfl rfl, by decide +kernel⟩
theorem fl_X9_57 : FL RX9 57 7 0 false .int := ⟨RX7, TX7, 14, rfl, by decide, rfl, by decide, by decide, tbl_t1 123 rfl rfl, by decide +kernel⟩
theorem fl_X9_65 : FL RX9 65 7 6 true (.array .int) := ⟨RX7, TX7, 14, rfl, by decide, rfl, by decide, by decide, tbl_t1 148 rfl rfl, by decide +kernel⟩
theorem fl_X11_7 : FL RX11 7 11 0 true (.array .byte) := ⟨RX11, TX11, 33, rfl, by decide, rfl, by decide, by decide, tbl_t4 217 rfl rfl, by decide +kernel⟩
theorem fl_X11_13 : FL RX11 13 11 3 true (.array .int) := ⟨RX11, TX11, 33, rfl, by decide, rfl, by decide, by decide, tbl_t4 220 rfl rfl, by decide +kernel⟩
theorem fl_X11_17 : FL RX11 17 11 4 true (.array .int) := ⟨RX11, TX11, 33, rfl, by decide, rfl, by decide, by decide, tbl_t4 221 rfl rfl, by decide +kernel⟩
theorem fl_X11_20 : FL RX11 20 11 5 true (.array .int) := ⟨RX11, TX11, 33, rfl, by decide, rfl, by decide, by decide, tbl_t4 222 rfl rfl, by decide +kernel⟩
theorem fl_X11_23 : FL RX11 23 11 6 true (.array .int) := ⟨RX11, TX11, 33, rfl, by decide, rfl, by decide, by decide, tbl_t4 223 rfl rfl, by decide +kernel⟩
theorem fl_X11_26 : FL RX11 26 11 9 true (.array .int) := ⟨RX11, TX11, 33, rfl, by decide, rfl, by decide, by decide, tbl_t4 226 rfl rfl, by decide +kernel⟩
theorem fl_X11_29 : FL RX11 29 11 10 true (.array .int) := ⟨RX11, TX11, 33, rfl, by decide, rfl, by decide, by decide, tbl_t4 227 rfl rfl, by decide +kernel⟩
theorem fl_X11_32 : FL RX11 32 11 11 true (.array .int) := ⟨RX11, TX11, 33, rfl, by decide, rfl, by decide, by decide, tbl_t4 228 rfl rfl, by decide +kernel⟩
theorem fl_X11_35 : FL RX11 35 11 19 true (.array .int) := ⟨RX11, TX11, 33, rfl, by decide, rfl, by decide, by decide, tbl_t4 236 rfl rfl, by decide +kernel⟩
theorem fl_X11_38 : FL RX11 38 11 21 true (.array .long) := ⟨RX11, TX11, 33, rfl, by decide, rfl, by decide, by decide, tbl_t4 238 rfl rfl, by decide +kernel⟩
theorem fl_X11_42 : FL RX11 42 11 23 true (.array .long) := ⟨RX11, TX11, 33, rfl, by decide, rfl, by decide, by decide, tbl_t5 0 rfl rfl, by decide +kernel⟩
theorem fl_X11_45 : FL RX11 45 11 24 true (.array .int) := ⟨RX11, TX11, 33, rfl, by decide, rfl, by decide, by decide, tbl_t5 1 rfl rfl, by decide +kernel⟩
theorem fl_X11_48 : FL RX11 48 11 25 true (.array .int) := ⟨RX11, TX11, 33, rfl, by decide, rfl, by decide, by decide, tbl_t5 2 rfl rfl, by decide +kernel⟩
theorem fl_X11_51 : FL RX11 51 11 26 true (.array .int) := ⟨RX11, TX11, 33, rfl, by decide, rfl, by decide, by decide, tbl_t5 3 rfl rfl, by decide +kernel⟩
theorem fl_X11_54 : FL RX11 54 11 27 true (.array .int) := ⟨RX11, TX11, 33, rfl, by decide, rfl, by decide, by decide, tbl_t5 4 rfl rfl, by decide +kernel⟩
theorem fl_X11_57 : FL RX11 57 11 29 true (.array .int) := ⟨RX11, TX11, 33, rfl, by decide, rfl, by decide, by decide, tbl_t5 6 rfl rfl, by decide +kernel⟩
theorem fl_X11_60 : FL RX11 60 11 30 true (.array .int) := ⟨RX11, TX11, 33, rfl, by decide, rfl, by decide, by decide, tbl_t5 7 rfl rfl, by decide +kernel⟩
theorem fl_X11_63 : FL RX11 63 11 31 true (.array .int) := ⟨RX11, TX11, 33, rfl, by decide, rfl, by decide, by decide, tbl_t5 8 rfl rfl, by decide +kernel⟩
theorem fl_X11_66 : FL RX11 66 11 32 true (.array .boolean) := ⟨RX11, TX11, 33, rfl, by decide, rfl, by decide, by decide, tbl_t5 9 rfl rfl, by decide +kernel⟩
theorem fl_X11_70 : FL RX11 70 11 1 false .int := ⟨RX11, TX11, 33, rfl, by decide, rfl, by decide, by decide, tbl_t4 218 rfl rfl, by decide +kernel⟩
theorem fl_X11_78 : FL RX11 78 11 13 false .int := ⟨RX11, TX11, 33, rfl, by decide, rfl, by decide, by decide, tbl_t4 230 rfl rfl, by decide +kernel⟩
theorem fl_X11_81 : FL RX11 81 11 12 false .int := ⟨RX11, TX11, 33, rfl, by decide, rfl, by decide, by decide, tbl_t4 229 rfl rfl, by decide +kernel⟩
theorem fl_X11_106 : FL RX11 106 11 14 false .int := ⟨RX11, TX11, 33, rfl, by decide, rfl, by decide, by decide, tbl_t4 231 rfl rfl, by decide +kernel⟩
theorem fl_X11_131 : FL RX11 131 11 15 false .int := ⟨RX11, TX11, 33, rfl, by decide, rfl, by decide, by decide, tbl_t4 232 rfl rfl, by decide +kernel⟩
theorem fl_X11_134 : FL RX11 134 11 16 false .int := ⟨RX11, TX11, 33, rfl, by decide, rfl, by decide, by decide, tbl_t4 233 rfl rfl, by decide +kernel⟩
theorem fl_X11_137 : FL RX11 137 11 17 false .int := ⟨RX11, TX11, 33, rfl, by decide, rfl, by decide, by decide, tbl_t4 234 rfl rfl, by decide +kernel⟩
theorem fl_X11_140 : FL RX11 140 11 20 false .int := ⟨RX11, TX11, 33, rfl, by decide, rfl, by decide, by decide, tbl_t4 237 rfl rfl, by decide +kernel⟩
theorem fl_X11_203 : FL RX11 203 11 7 false .int := ⟨RX11, TX11, 33, rfl, by decide, rfl, by decide, by decide, tbl_t4 224 rfl rfl, by decide +kernel⟩
theorem fl_X11_209 : FL RX11 209 11 8 false .int := ⟨RX11, TX11, 33, rfl, by decide, rfl, by decide, by decide, tbl_t4 225 rfl rfl, by decide +kernel⟩
theorem fl_X11_218 : FL RX11 218 11 18 false .int := ⟨RX11, TX11, 33, rfl, by decide, rfl, by decide, by decide, tbl_t4 235 rfl rfl, by decide +kernel⟩
theorem fl_X11_236 : FL RX11 236 11 2 false .int := ⟨RX11, TX11, 33, rfl, by decide, rfl, by decide, by decide, tbl_t4 219 rfl rfl, by decide +kernel⟩
theorem fl_X11_242 : FL RX11 242 11 22 false .int := ⟨RX11, TX11, 33, rfl, by decide, rfl, by decide, by decide, tbl_t4 239 rfl rfl, by decide +kernel⟩
theorem fl_X11_361 : FL RX11 361 11 28 false .int := ⟨RX11, TX11, 33, rfl, by decide, rfl, by decide, by decide, tbl_t5 5 rfl rfl, by decide +kernel⟩
theorem fp_X10_5_1 : FP RX10 5 1 false := ⟨_, _, _, rfl, rfl, fun q => nomatch q⟩
theorem fp_X10_7_11 : FP RX10 7 11 false := ⟨_, _, _, rfl, rfl, fun q => nomatch q⟩
theorem fp_X10_7_13 : FP RX10 7 13 false := ⟨_, _, _, rfl, rfl, fun q => nomatch q⟩
theorem fp_X10_10_0 : FP RX10 10 0 true := ⟨_, _, _, rfl, rfl, fun _ => rfl⟩
theorem fp_X10_10_1 : FP RX10 10 1 true := ⟨_, _, _, rfl, rfl, fun _ => rfl⟩
theorem fp_X10_10_2 : FP RX10 10 2 true := ⟨_, _, _, rfl, rfl, fun _ => rfl⟩
theorem fp_X10_10_3 : FP RX10 10 3 true := ⟨_, _, _, rfl, rfl, fun _ => rfl⟩
theorem fp_X10_10_4 : FP RX10 10 4 true := ⟨_, _, _, rfl, rfl, fun _ => rfl⟩
theorem fp_X10_10_5 : FP RX10 10 5 true := ⟨_, _, _, rfl, rfl, fun _ => rfl⟩
theorem fp_X10_10_6 : FP RX10 10 6 true := ⟨_, _, _, rfl, rfl, fun _ => rfl⟩
theorem fp_X10_10_7 : FP RX10 10 7 true := ⟨_, _, _, rfl, rfl, fun _ => rfl⟩
theorem fp_X10_10_8 : FP RX10 10 8 false := ⟨_, _, _, rfl, rfl, fun q => nomatch q⟩
theorem fp_X10_10_9 : FP RX10 10 9 true := ⟨_, _, _, rfl, rfl, fun _ => rfl⟩
theorem fp_X10_10_10 : FP RX10 10 10 true := ⟨_, _, _, rfl, rfl, fun _ => rfl⟩
theorem fp_X10_10_11 : FP RX10 10 11 true := ⟨_, _, _, rfl, rfl, fun _ => rfl⟩
theorem fp_X10_10_12 : FP RX10 10 12 true := ⟨_, _, _, rfl, rfl, fun _ => rfl⟩
theorem fp_X10_10_13 : FP RX10 10 13 true := ⟨_, _, _, rfl, rfl, fun _ => rfl⟩
theorem fp_X0_0_0 : FP RX0 0 0 true := ⟨_, _, _, rfl, rfl, fun _ => rfl⟩
theorem fp_X0_0_1 : FP RX0 0 1 true := ⟨_, _, _, rfl, rfl, fun _ => rfl⟩
theorem fp_X0_0_2 : FP RX0 0 2 true := ⟨_, _, _, rfl, rfl, fun _ => rfl⟩
theorem fp_X0_0_3 : FP RX0 0 3 true := ⟨_, _, _, rfl, rfl, fun _ => rfl⟩
theorem fp_X0_0_4 : FP RX0 0 4 true := ⟨_, _, _, rfl, rfl, fun _ => rfl⟩
theorem fp_X0_0_5 : FP RX0 0 5 false := ⟨_, _, _, rfl, rfl, fun q => nomatch q⟩
theorem fp_X0_0_6 : FP RX0 0 6 false := ⟨_, _, _, rfl, rfl, fun q => nomatch q⟩
theorem fp_X0_0_7 : FP RX0 0 7 false := ⟨_, _, _, rfl, rfl, fun q => nomatch q⟩
theorem fp_X0_0_8 : FP RX0 0 8 false := ⟨_, _, _, rfl, rfl, fun q => nomatch q⟩
theorem fp_X1_1_0 : FP RX1 1 0 false := ⟨_, _, _, rfl, rfl, fun q => nomatch q⟩
theorem fp_X1_1_1 : FP RX1 1 1 true := ⟨_, _, _, rfl, rfl, fun _ => rfl⟩
theorem fp_X1_1_2 : FP RX1 1 2 true := ⟨_, _, _, rfl, rfl, fun _ => rfl⟩
theorem fp_X1_1_3 : FP RX1 1 3 true := ⟨_, _, _, rfl, rfl, fun _ => rfl⟩
theorem fp_X1_1_4 : FP RX1 1 4 true := ⟨_, _, _, rfl, rfl, fun _ => rfl⟩
theorem fp_X1_1_5 : FP RX1 1 5 true := ⟨_, _, _, rfl, rfl, fun _ => rfl⟩
theorem fp_X2_2_0 : FP RX2 2 0 true := ⟨_, _, _, rfl, rfl, fun _ => rfl⟩
theorem fp_X2_2_1 : FP RX2 2 1 false := ⟨_, _, _, rfl, rfl, fun q => nomatch q⟩
theorem fp_X3_3_0 : FP RX3 3 0 true := ⟨_, _, _, rfl, rfl, fun _ => rfl⟩
theorem fp_X3_3_1 : FP RX3 3 1 true := ⟨_, _, _, rfl, rfl, fun _ => rfl⟩
theorem fp_X3_3_2 : FP RX3 3 2 false := ⟨_, _, _, rfl, rfl, fun q => nomatch q⟩
theorem fp_X4_4_0 : FP RX4 4 0 true := ⟨_, _, _, rfl, rfl, fun _ => rfl⟩
theorem fp_X4_4_1 : FP RX4 4 1 true := ⟨_, _, _, rfl, rfl, fun _ => rfl⟩
theorem fp_X4_4_2 : FP RX4 4 2 true := ⟨_, _, _, rfl, rfl, fun _ => rfl⟩
theorem fp_X4_4_3 : FP RX4 4 3 true := ⟨_, _, _, rfl, rfl, fun _ => rfl⟩
theorem fp_X4_4_4 : FP RX4 4 4 true := ⟨_, _, _, rfl, rfl, fun _ => rfl⟩
theorem fp_X4_4_5 : FP RX4 4 5 false := ⟨_, _, _, rfl, rfl, fun q => nomatch q⟩
theorem fp_X4_4_6 : FP RX4 4 6 false := ⟨_, _, _, rfl, rfl, fun q => nomatch q⟩
theorem fp_X4_4_7 : FP RX4 4 7 false := ⟨_, _, _, rfl, rfl, fun q => nomatch q⟩
theorem fp_X4_4_8 : FP RX4 4 8 false := ⟨_, _, _, rfl, rfl, fun q => nomatch q⟩
theorem fp_X5_5_0 : FP RX5 5 0 true := ⟨_, _, _, rfl, rfl, fun _ => rfl⟩
theorem fp_X5_5_1 : FP RX5 5 1 false := ⟨_, _, _, rfl, rfl, fun q => nomatch q⟩
theorem fp_X6_6_0 : FP RX6 6 0 true := ⟨_, _, _, rfl, rfl, fun _ => rfl⟩
theorem fp_X6_6_1 : FP RX6 6 1 true := ⟨_, _, _, rfl, rfl, fun _ => rfl⟩
theorem fp_X6_6_2 : FP RX6 6 2 true := ⟨_, _, _, rfl, rfl, fun _ => rfl⟩
theorem fp_X6_6_3 : FP RX6 6 3 false := ⟨_, _, _, rfl, rfl, fun q => nomatch q⟩
theorem fp_X6_6_4 : FP RX6 6 4 false := ⟨_, _, _, rfl, rfl, fun q => nomatch q⟩
theorem fp_X6_6_5 : FP RX6 6 5 false := ⟨_, _, _, rfl, rfl, fun q => nomatch q⟩
theorem fp_X7_7_0 : FP RX7 7 0 false := ⟨_, _, _, rfl, rfl, fun q => nomatch q⟩
theorem fp_X7_7_1 : FP RX7 7 1 true := ⟨_, _, _, rfl, rfl, fun _ => rfl⟩
theorem fp_X7_7_2 : FP RX7 7 2 true := ⟨_, _, _, rfl, rfl, fun _ => rfl⟩
theorem fp_X7_7_3 : FP RX7 7 3 true := ⟨_, _, _, rfl, rfl, fun _ => rfl⟩
theorem fp_X7_7_4 : FP RX7 7 4 true := ⟨_, _, _, rfl, rfl, fun _ => rfl⟩
theorem fp_X7_7_5 : FP RX7 7 5 true := ⟨_, _, _, rfl, rfl, fun _ => rfl⟩
theorem fp_X7_7_6 : FP RX7 7 6 true := ⟨_, _, _, rfl, rfl, fun _ => rfl⟩
theorem fp_X7_7_7 : FP RX7 7 7 true := ⟨_, _, _, rfl, rfl, fun _ => rfl⟩
theorem fp_X7_7_8 : FP RX7 7 8 false := ⟨_, _, _, rfl, rfl, fun q => nomatch q⟩
theorem fp_X7_7_9 : FP RX7 7 9 true := ⟨_, _, _, rfl, rfl, fun _ => rfl⟩
theorem fp_X7_7_10 : FP RX7 7 10 true := ⟨_, _, _, rfl, rfl, fun _ => rfl⟩
theorem fp_X7_7_11 : FP RX7 7 11 false := ⟨_, _, _, rfl, rfl, fun q => nomatch q⟩
theorem fp_X7_7_12 : FP RX7 7 12 true := ⟨_, _, _, rfl, rfl, fun _ => rfl⟩
theorem fp_X7_7_13 : FP RX7 7 13 false := ⟨_, _, _, rfl, rfl, fun q => nomatch q⟩
theorem fp_X8_7_0 : FP RX8 7 0 false := ⟨_, _, _, rfl, rfl, fun q => nomatch q⟩
theorem fp_X8_7_8 : FP RX8 7 8 false := ⟨_, _, _, rfl, rfl, fun q => nomatch q⟩
theorem fp_X8_8_0 : FP RX8 8 0 true := ⟨_, _, _, rfl, rfl, fun _ => rfl⟩
theorem fp_X8_8_1 : FP RX8 8 1 false := ⟨_, _, _, rfl, rfl, fun q => nomatch q⟩
theorem fp_X9_9_0 : FP RX9 9 0 true := ⟨_, _, _, rfl, rfl, fun _ => rfl⟩
theorem fp_X9_9_1 : FP RX9 9 1 true := ⟨_, _, _, rfl, rfl, fun _ => rfl⟩
theorem fp_X11_11_0 : FP RX11 11 0 true := ⟨_, _, _, rfl, rfl, fun _ => rfl⟩
theorem fp_X11_11_1 : FP RX11 11 1 false := ⟨_, _, _, rfl, rfl, fun q => nomatch q⟩
theorem fp_X11_11_2 : FP RX11 11 2 false := ⟨_, _, _, rfl, rfl, fun q => nomatch q⟩
theorem fp_X11_11_3 : FP RX11 11 3 true := ⟨_, _, _, rfl, rfl, fun _ => rfl⟩
theorem fp_X11_11_4 : FP RX11 11 4 true := ⟨_, _, _, rfl, rfl, fun _ => rfl⟩
theorem fp_X11_11_5 : FP RX11 11 5 true := ⟨_, _, _, rfl, rfl, fun _ => rfl⟩
theorem fp_X11_11_6 : FP RX11 11 6 true := ⟨_, _, _, rfl, rfl, fun _ => rfl⟩
theorem fp_X11_11_7 : FP RX11 11 7 false := ⟨_, _, _, rfl, rfl, fun q => nomatch q⟩
theorem fp_X11_11_8 : FP RX11 11 8 false := ⟨_, _, _, rfl, rfl, fun q => nomatch q⟩
theorem fp_X11_11_9 : FP RX11 11 9 true := ⟨_, _, _, rfl, rfl, fun _ => rfl⟩
theorem fp_X11_11_10 : FP RX11 11 10 true := ⟨_, _, _, rfl, rfl, fun _ => rfl⟩
theorem fp_X11_11_11 : FP RX11 11 11 true := ⟨_, _, _, rfl, rfl, fun _ => rfl⟩
theorem fp_X11_11_12 : FP RX11 11 12 false := ⟨_, _, _, rfl, rfl, fun q => nomatch q⟩
theorem fp_X11_11_13 : FP RX11 11 13 false := ⟨_, _, _, rfl, rfl, fun q => nomatch q⟩
theorem fp_X11_11_14 : FP RX11 11 14 false := ⟨_, _, _, rfl, rfl, fun q => nomatch q⟩
theorem fp_X11_11_15 : FP RX11 11 15 false := ⟨_, _, _, rfl, rfl, fun q => nomatch q⟩
theorem fp_X11_11_16 : FP RX11 11 16 false := ⟨_, _, _, rfl, rfl, fun q => nomatch q⟩
theorem fp_X11_11_17 : FP RX11 11 17 false := ⟨_, _, _, rfl, rfl, fun q => nomatch q⟩
theorem fp_X11_11_18 : FP RX11 11 18 false := ⟨_, _, _, rfl, rfl, fun q => nomatch q⟩
theorem fp_X11_11_19 : FP RX11 11 19 true := ⟨_, _, _, rfl, rfl, fun _ => rfl⟩
theorem fp_X11_11_20 : FP RX11 11 20 false := ⟨_, _, _, rfl, rfl, fun q => nomatch q⟩
theorem fp_X11_11_21 : FP RX11 11 21 true := ⟨_, _, _, rfl, rfl, fun _ => rfl⟩
theorem fp_X11_11_22 : FP RX11 11 22 false := ⟨_, _, _, rfl, rfl, fun q => nomatch q⟩
theorem fp_X11_11_23 : FP RX11 11 23 true := ⟨_, _, _, rfl, rfl, fun _ => rfl⟩
theorem fp_X11_11_24 : FP RX11 11 24 true := ⟨_, _, _, rfl, rfl, fun _ => rfl⟩
theorem fp_X11_11_25 : FP RX11 11 25 true := ⟨_, _, _, rfl, rfl, fun _ => rfl⟩
theorem fp_X11_11_26 : FP RX11 11 26 true := ⟨_, _, _, rfl, rfl, fun _ => rfl⟩
theorem fp_X11_11_27 : FP RX11 11 27 true := ⟨_, _, _, rfl, rfl, fun _ => rfl⟩
theorem fp_X11_11_28 : FP RX11 11 28 false := ⟨_, _, _, rfl, rfl, fun q => nomatch q⟩
theorem fp_X11_11_29 : FP RX11 11 29 true := ⟨_, _, _, rfl, rfl, fun _ => rfl⟩
theorem fp_X11_11_30 : FP RX11 11 30 true := ⟨_, _, _, rfl, rfl, fun _ => rfl⟩
theorem fp_X11_11_31 : FP RX11 11 31 true := ⟨_, _, _, rfl, rfl, fun _ => rfl⟩
theorem fp_X11_11_32 : FP RX11 11 32 true := ⟨_, _, _, rfl, rfl, fun _ => rfl⟩
theorem nw_X10_7 : NewOK RX10 7 5 := ⟨RX5, TX5, 2, tyX5, rfl, by decide, rfl, tyX5_ok, by decide +kernel, tbl_t1 28 rfl rfl, tbl_t1 29 rfl rfl, tbl_t1 2 rfl rfl⟩
theorem nw_X10_16 : NewOK RX10 16 6 := ⟨RX6, TX6, 6, tyX6, rfl, by decide, rfl, tyX6_ok, by decide +kernel, tbl_t1 44 rfl rfl, tbl_t1 45 rfl rfl, tbl_t1 3 rfl rfl⟩
theorem nw_X10_23 : NewOK RX10 23 8 := ⟨RX8, TX8, 2, tyX8, rfl, by decide, rfl, tyX8_ok, by decide +kernel, tbl_t1 70 rfl rfl, tbl_t1 71 rfl rfl, tbl_t1 4 rfl rfl⟩
theorem nw_X10_32 : NewOK RX10 32 3 := ⟨RX3, TX3, 3, tyX3, rfl, by decide, rfl, tyX3_ok, by decide +kernel, tbl_t1 83 rfl rfl, tbl_t1 84 rfl rfl, tbl_t1 5 rfl rfl⟩
theorem nw_X10_39 : NewOK RX10 39 7 := ⟨RX7, TX7, 14, tyX7, rfl, by decide, rfl, tyX7_ok, by decide +kernel, tbl_t1 112 rfl rfl, tbl_t1 113 rfl rfl, tbl_t1 7 rfl rfl⟩
theorem nw_X10_53 : NewOK RX10 53 2 := ⟨RX2, TX2, 2, tyX2, rfl, by decide, rfl, tyX2_ok, by decide +kernel, tbl_t1 199 rfl rfl, tbl_t1 90 rfl rfl, tbl_t1 6 rfl rfl⟩
theorem nw_X10_63 : NewOK RX10 63 9 := ⟨RX9, TX9, 2, tyX9, rfl, by decide, rfl, tyX9_ok, by decide +kernel, tbl_t1 201 rfl rfl, tbl_t1 202 rfl rfl, tbl_t1 8 rfl rfl⟩
theorem nw_X10_70 : NewOK RX10 70 1 := ⟨RX1, TX1, 6, tyX1, rfl, by decide, rfl, tyX1_ok, by decide +kernel, tbl_t1 216 rfl rfl, tbl_t1 217 rfl rfl, tbl_t1 9 rfl rfl⟩
theorem nw_X10_77 : NewOK RX10 77 4 := ⟨RX4, TX4, 9, tyX4, rfl, by decide, rfl, tyX4_ok, by decide +kernel, tbl_t2 1 rfl rfl, tbl_t2 2 rfl rfl, tbl_t1 10 rfl rfl⟩
theorem nw_X10_86 : NewOK RX10 86 0 := ⟨RX0, TX0, 9, tyX0, rfl, by decide, rfl, tyX0_ok, by decide +kernel, tbl_t2 40 rfl rfl, tbl_t2 41 rfl rfl, tbl_t1 11 rfl rfl⟩
theorem nw_X3_9 : NewOK RX3 9 2 := ⟨RX2, TX2, 2, tyX2, rfl, by decide, rfl, tyX2_ok, by decide +kernel, tbl_t1 89 rfl rfl, tbl_t1 90 rfl rfl, tbl_t1 6 rfl rfl⟩
