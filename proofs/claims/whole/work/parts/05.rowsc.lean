set_option maxRecDepth 20000 in
theorem ggX9_init_X9_begins : GoodIn wsX9_init wsX9_begins := goodIn_r _ [24, 5, 25, 26, 27, 28, 29, 30, 31, 32, 33, 34, 35, 36, 37, 38, 39, 40, 41, 42, 43, 44, 45, 46, 47, 48, 49, 50, 51, 52, 53] (by decide +kernel) (by decide +kernel)
set_option maxRecDepth 20000 in
theorem gX9_init_X9_begins : GoodIn wsX9_init (wsV RX9 55 RX9 yX9_begins wsX9_begins) := goodIn_app (goodIn_of _ (by decide +kernel)) ggX9_init_X9_begins
theorem dX9_init_0 : decode cX9_init 0 = .ok (.aload_n 0, 1) := by decide +kernel
theorem dX9_init_1 : decode cX9_init 1 = .ok (.invokespecial 1, 3) := by decide +kernel
theorem dX9_init_4 : decode cX9_init 4 = .ok (.aload_n 0, 1) := by decide +kernel
theorem dX9_init_5 : decode cX9_init 5 = .ok (.bipush 57, 2) := by decide +kernel
theorem dX9_init_7 : decode cX9_init 7 = .ok (.newarray .int, 2) := by decide +kernel
theorem dX9_init_9 : decode cX9_init 9 = .ok (.putfield 7, 3) := by decide +kernel
theorem dX9_init_12 : decode cX9_init 12 = .ok (.aload_n 0, 1) := by decide +kernel
theorem dX9_init_13 : decode cX9_init 13 = .ok (.bipush 57, 2) := by decide +kernel
theorem dX9_init_15 : decode cX9_init 15 = .ok (.newarray .int, 2) := by decide +kernel
theorem dX9_init_17 : decode cX9_init 17 = .ok (.putfield 13, 3) := by decide +kernel
theorem dX9_init_20 : decode cX9_init 20 = .ok (.aload_n 0, 1) := by decide +kernel
theorem dX9_init_21 : decode cX9_init 21 = .ok (.bipush 57, 2) := by decide +kernel
theorem dX9_init_23 : decode cX9_init 23 = .ok (.newarray .int, 2) := by decide +kernel
theorem dX9_init_25 : decode cX9_init 25 = .ok (.putfield 16, 3) := by decide +kernel
theorem dX9_init_28 : decode cX9_init 28 = .ok (.aload_n 0, 1) := by decide +kernel
theorem dX9_init_29 : decode cX9_init 29 = .ok (.bipush 57, 2) := by decide +kernel
theorem dX9_init_31 : decode cX9_init 31 = .ok (.newarray .int, 2) := by decide +kernel
theorem dX9_init_33 : decode cX9_init 33 = .ok (.putfield 19, 3) := by decide +kernel
theorem dX9_init_36 : decode cX9_init 36 = .ok (.aload_n 0, 1) := by decide +kernel
theorem dX9_init_37 : decode cX9_init 37 = .ok (.sipush 200, 3) := by decide +kernel
theorem dX9_init_40 : decode cX9_init 40 = .ok (.newarray .int, 2) := by decide +kernel
theorem dX9_init_42 : decode cX9_init 42 = .ok (.putfield 22, 3) := by decide +kernel
theorem dX9_init_45 : decode cX9_init 45 = .ok (.aload_n 0, 1) := by decide +kernel
theorem dX9_init_46 : decode cX9_init 46 = .ok (.bipush 57, 2) := by decide +kernel
theorem dX9_init_48 : decode cX9_init 48 = .ok (.newarray .int, 2) := by decide +kernel
theorem dX9_init_50 : decode cX9_init 50 = .ok (.putfield 25, 3) := by decide +kernel
theorem dX9_init_53 : decode cX9_init 53 = .ok (.aload_n 0, 1) := by decide +kernel
theorem dX9_init_54 : decode cX9_init 54 = .ok (.bipush 8, 2) := by decide +kernel
theorem dX9_init_56 : decode cX9_init 56 = .ok (.newarray .int, 2) := by decide +kernel
theorem dX9_init_58 : decode cX9_init 58 = .ok (.putfield 28, 3) := by decide +kernel
theorem dX9_init_61 : decode cX9_init 61 = .ok (.aload_n 0, 1) := by decide +kernel
theorem dX9_init_62 : decode cX9_init 62 = .ok (.bipush 30, 2) := by decide +kernel
theorem dX9_init_64 : decode cX9_init 64 = .ok (.newarray .int, 2) := by decide +kernel
theorem dX9_init_66 : decode cX9_init 66 = .ok (.putfield 31, 3) := by decide +kernel
theorem dX9_init_69 : decode cX9_init 69 = .ok (.aload_n 0, 1) := by decide +kernel
theorem dX9_init_70 : decode cX9_init 70 = .ok (.iconst 4, 1) := by decide +kernel
theorem dX9_init_71 : decode cX9_init 71 = .ok (.newarray .int, 2) := by decide +kernel
theorem dX9_init_73 : decode cX9_init 73 = .ok (.dup, 1) := by decide +kernel
theorem dX9_init_74 : decode cX9_init 74 = .ok (.iconst 0, 1) := by decide +kernel
theorem dX9_init_75 : decode cX9_init 75 = .ok (.iconst (-1), 1) := by decide +kernel
theorem dX9_init_76 : decode cX9_init 76 = .ok (.iastore, 1) := by decide +kernel
theorem dX9_init_77 : decode cX9_init 77 = .ok (.dup, 1) := by decide +kernel
theorem dX9_init_78 : decode cX9_init 78 = .ok (.iconst 1, 1) := by decide +kernel
theorem dX9_init_79 : decode cX9_init 79 = .ok (.iconst (-1), 1) := by decide +kernel
theorem dX9_init_80 : decode cX9_init 80 = .ok (.iastore, 1) := by decide +kernel
theorem dX9_init_81 : decode cX9_init 81 = .ok (.dup, 1) := by decide +kernel
theorem dX9_init_82 : decode cX9_init 82 = .ok (.iconst 2, 1) := by decide +kernel
theorem dX9_init_83 : decode cX9_init 83 = .ok (.iconst (-1), 1) := by decide +kernel
theorem dX9_init_84 : decode cX9_init 84 = .ok (.iastore, 1) := by decide +kernel
theorem dX9_init_85 : decode cX9_init 85 = .ok (.dup, 1) := by decide +kernel
theorem dX9_init_86 : decode cX9_init 86 = .ok (.iconst 3, 1) := by decide +kernel
theorem dX9_init_87 : decode cX9_init 87 = .ok (.iconst (-1), 1) := by decide +kernel
theorem dX9_init_88 : decode cX9_init 88 = .ok (.iastore, 1) := by decide +kernel
theorem dX9_init_89 : decode cX9_init 89 = .ok (.putfield 34, 3) := by decide +kernel
theorem dX9_init_92 : decode cX9_init 92 = .ok (.aload_n 0, 1) := by decide +kernel
theorem dX9_init_93 : decode cX9_init 93 = .ok (.iconst 4, 1) := by decide +kernel
theorem dX9_init_94 : decode cX9_init 94 = .ok (.newarray .int, 2) := by decide +kernel
theorem dX9_init_96 : decode cX9_init 96 = .ok (.putfield 37, 3) := by decide +kernel
theorem dX9_init_99 : decode cX9_init 99 = .ok (.aload_n 0, 1) := by decide +kernel
theorem dX9_init_100 : decode cX9_init 100 = .ok (.sipush 160, 3) := by decide +kernel
theorem dX9_init_103 : decode cX9_init 103 = .ok (.newarray .int, 2) := by decide +kernel
theorem dX9_init_105 : decode cX9_init 105 = .ok (.putfield 40, 3) := by decide +kernel
theorem dX9_init_108 : decode cX9_init 108 = .ok (.aload_n 0, 1) := by decide +kernel
theorem dX9_init_109 : decode cX9_init 109 = .ok (.iconst 4, 1) := by decide +kernel
theorem dX9_init_110 : decode cX9_init 110 = .ok (.newarray .int, 2) := by decide +kernel
theorem dX9_init_112 : decode cX9_init 112 = .ok (.putfield 43, 3) := by decide +kernel
theorem dX9_init_115 : decode cX9_init 115 = .ok (.aload_n 0, 1) := by decide +kernel
theorem dX9_init_116 : decode cX9_init 116 = .ok (.iconst 4, 1) := by decide +kernel
theorem dX9_init_117 : decode cX9_init 117 = .ok (.newarray .int, 2) := by decide +kernel
theorem dX9_init_119 : decode cX9_init 119 = .ok (.putfield 46, 3) := by decide +kernel
theorem dX9_init_122 : decode cX9_init 122 = .ok (.aload_n 0, 1) := by decide +kernel
theorem dX9_init_123 : decode cX9_init 123 = .ok (.iconst 4, 1) := by decide +kernel
theorem dX9_init_124 : decode cX9_init 124 = .ok (.newarray .int, 2) := by decide +kernel
theorem dX9_init_126 : decode cX9_init 126 = .ok (.putfield 49, 3) := by decide +kernel
theorem dX9_init_129 : decode cX9_init 129 = .ok (.aload_n 0, 1) := by decide +kernel
theorem dX9_init_130 : decode cX9_init 130 = .ok (.bipush 30, 2) := by decide +kernel
theorem dX9_init_132 : decode cX9_init 132 = .ok (.newarray .int, 2) := by decide +kernel
theorem dX9_init_134 : decode cX9_init 134 = .ok (.putfield 52, 3) := by decide +kernel
theorem dX9_init_137 : decode cX9_init 137 = .ok (.aload_n 0, 1) := by decide +kernel
theorem dX9_init_138 : decode cX9_init 138 = .ok (.invokevirtual 55, 3) := by decide +kernel
theorem dX9_init_141 : decode cX9_init 141 = .ok (.aload_n 0, 1) := by decide +kernel
theorem dX9_init_142 : decode cX9_init 142 = .ok (.getfield 7, 3) := by decide +kernel
theorem dX9_init_145 : decode cX9_init 145 = .ok (.iconst 2, 1) := by decide +kernel
theorem dX9_init_146 : decode cX9_init 146 = .ok (.iconst 1, 1) := by decide +kernel
theorem dX9_init_147 : decode cX9_init 147 = .ok (.iastore, 1) := by decide +kernel
theorem dX9_init_148 : decode cX9_init 148 = .ok (.return_, 1) := by decide +kernel
theorem dX9_begins_0 : decode cX9_begins 0 = .ok (.aload_n 0, 1) := by decide +kernel
theorem dX9_begins_1 : decode cX9_begins 1 = .ok (.getfield 7, 3) := by decide +kernel
theorem dX9_begins_4 : decode cX9_begins 4 = .ok (.iconst 2, 1) := by decide +kernel
theorem dX9_begins_5 : decode cX9_begins 5 = .ok (.iaload, 1) := by decide +kernel
theorem dX9_begins_6 : decode cX9_begins 6 = .ok (.istore_n 1, 1) := by decide +kernel
theorem dX9_begins_7 : decode cX9_begins 7 = .ok (.iconst 0, 1) := by decide +kernel
theorem dX9_begins_8 : decode cX9_begins 8 = .ok (.istore_n 2, 1) := by decide +kernel
theorem dX9_begins_9 : decode cX9_begins 9 = .ok (.iload_n 2, 1) := by decide +kernel
theorem dX9_begins_10 : decode cX9_begins 10 = .ok (.bipush 57, 2) := by decide +kernel
theorem dX9_begins_12 : decode cX9_begins 12 = .ok (.if_icmp .ge 16, 3) := by decide +kernel
theorem dX9_begins_15 : decode cX9_begins 15 = .ok (.aload_n 0, 1) := by decide +kernel
theorem dX9_begins_16 : decode cX9_begins 16 = .ok (.getfield 7, 3) := by decide +kernel
theorem dX9_begins_19 : decode cX9_begins 19 = .ok (.iload_n 2, 1) := by decide +kernel
theorem dX9_begins_20 : decode cX9_begins 20 = .ok (.iconst 0, 1) := by decide +kernel
theorem dX9_begins_21 : decode cX9_begins 21 = .ok (.iastore, 1) := by decide +kernel
theorem dX9_begins_22 : decode cX9_begins 22 = .ok (.iinc 2 1, 3) := by decide +kernel
theorem dX9_begins_25 : decode cX9_begins 25 = .ok (.goto (-16), 3) := by decide +kernel
theorem dX9_begins_28 : decode cX9_begins 28 = .ok (.aload_n 0, 1) := by decide +kernel
theorem dX9_begins_29 : decode cX9_begins 29 = .ok (.getfield 7, 3) := by decide +kernel
theorem dX9_begins_32 : decode cX9_begins 32 = .ok (.iconst 2, 1) := by decide +kernel
theorem dX9_begins_33 : decode cX9_begins 33 = .ok (.iload_n 1, 1) := by decide +kernel
theorem dX9_begins_34 : decode cX9_begins 34 = .ok (.iastore, 1) := by decide +kernel
theorem dX9_begins_35 : decode cX9_begins 35 = .ok (.aload_n 0, 1) := by decide +kernel
theorem dX9_begins_36 : decode cX9_begins 36 = .ok (.getfield 7, 3) := by decide +kernel
theorem dX9_begins_39 : decode cX9_begins 39 = .ok (.iconst 5, 1) := by decide +kernel
theorem dX9_begins_40 : decode cX9_begins 40 = .ok (.iconst 2, 1) := by decide +kernel
theorem dX9_begins_41 : decode cX9_begins 41 = .ok (.iastore, 1) := by decide +kernel
theorem dX9_begins_42 : decode cX9_begins 42 = .ok (.aload_n 0, 1) := by decide +kernel
theorem dX9_begins_43 : decode cX9_begins 43 = .ok (.getfield 7, 3) := by decide +kernel
theorem dX9_begins_46 : decode cX9_begins 46 = .ok (.bipush 6, 2) := by decide +kernel
theorem dX9_begins_48 : decode cX9_begins 48 = .ok (.iconst 1, 1) := by decide +kernel
theorem dX9_begins_49 : decode cX9_begins 49 = .ok (.iastore, 1) := by decide +kernel
theorem dX9_begins_50 : decode cX9_begins 50 = .ok (.aload_n 0, 1) := by decide +kernel
theorem dX9_begins_51 : decode cX9_begins 51 = .ok (.getfield 7, 3) := by decide +kernel
theorem dX9_begins_54 : decode cX9_begins 54 = .ok (.bipush 7, 2) := by decide +kernel
theorem dX9_begins_56 : decode cX9_begins 56 = .ok (.iconst 3, 1) := by decide +kernel
theorem dX9_begins_57 : decode cX9_begins 57 = .ok (.iastore, 1) := by decide +kernel
theorem dX9_begins_58 : decode cX9_begins 58 = .ok (.aload_n 0, 1) := by decide +kernel
theorem dX9_begins_59 : decode cX9_begins 59 = .ok (.getfield 7, 3) := by decide +kernel
theorem dX9_begins_62 : decode cX9_begins 62 = .ok (.bipush 8, 2) := by decide +kernel
theorem dX9_begins_64 : decode cX9_begins 64 = .ok (.bipush 20, 2) := by decide +kernel
theorem dX9_begins_66 : decode cX9_begins 66 = .ok (.iastore, 1) := by decide +kernel
theorem dX9_begins_67 : decode cX9_begins 67 = .ok (.return_, 1) := by decide +kernel
theorem dX9_isIn_0 : decode cX9_isIn 0 = .ok (.lload_n 0, 1) := by decide +kernel
theorem dX9_isIn_1 : decode cX9_isIn 1 = .ok (.lload_n 2, 1) := by decide +kernel
theorem dX9_isIn_2 : decode cX9_isIn 2 = .ok (.lcmp, 1) := by decide +kernel
theorem dX9_isIn_3 : decode cX9_isIn 3 = .ok (.ifCond .lt 14, 3) := by decide +kernel
theorem dX9_isIn_6 : decode cX9_isIn 6 = .ok (.lload_n 0, 1) := by decide +kernel
theorem dX9_isIn_7 : decode cX9_isIn 7 = .ok (.lload 4, 2) := by decide +kernel
theorem dX9_isIn_9 : decode cX9_isIn 9 = .ok (.lcmp, 1) := by decide +kernel
theorem dX9_isIn_10 : decode cX9_isIn 10 = .ok (.ifCond .gt 7, 3) := by decide +kernel
theorem dX9_isIn_13 : decode cX9_isIn 13 = .ok (.iconst 1, 1) := by decide +kernel
theorem dX9_isIn_14 : decode cX9_isIn 14 = .ok (.goto 4, 3) := by decide +kernel
theorem dX9_isIn_17 : decode cX9_isIn 17 = .ok (.iconst 0, 1) := by decide +kernel
theorem dX9_isIn_18 : decode cX9_isIn 18 = .ok (.ireturn, 1) := by decide +kernel
theorem dX9_isOne_0 : decode cX9_isOne 0 = .ok (.iload_n 1, 1) := by decide +kernel
theorem dX9_isOne_1 : decode cX9_isOne 1 = .ok (.ifCond .lt 17, 3) := by decide +kernel
theorem dX9_isOne_4 : decode cX9_isOne 4 = .ok (.iload_n 1, 1) := by decide +kernel
theorem dX9_isOne_5 : decode cX9_isOne 5 = .ok (.aload_n 0, 1) := by decide +kernel
theorem dX9_isOne_6 : decode cX9_isOne 6 = .ok (.getfield 7, 3) := by decide +kernel
theorem dX9_isOne_9 : decode cX9_isOne 9 = .ok (.iconst 0, 1) := by decide +kernel
theorem dX9_isOne_10 : decode cX9_isOne 10 = .ok (.iaload, 1) := by decide +kernel
theorem dX9_isOne_11 : decode cX9_isOne 11 = .ok (.if_icmp .ge 7, 3) := by decide +kernel
theorem dX9_isOne_14 : decode cX9_isOne 14 = .ok (.iconst 1, 1) := by decide +kernel
theorem dX9_isOne_15 : decode cX9_isOne 15 = .ok (.goto 4, 3) := by decide +kernel
theorem dX9_isOne_18 : decode cX9_isOne 18 = .ok (.iconst 0, 1) := by decide +kernel
theorem dX9_isOne_19 : decode cX9_isOne 19 = .ok (.ireturn, 1) := by decide +kernel
theorem dX9_its_0 : decode cX9_its 0 = .ok (.aload_n 0, 1) := by decide +kernel
theorem dX9_its_1 : decode cX9_its 1 = .ok (.getfield 7, 3) := by decide +kernel
theorem dX9_its_4 : decode cX9_its 4 = .ok (.bipush 9, 2) := by decide +kernel
theorem dX9_its_6 : decode cX9_its 6 = .ok (.bipush 6, 2) := by decide +kernel
theorem dX9_its_8 : decode cX9_its 8 = .ok (.iload_n 1, 1) := by decide +kernel
theorem dX9_its_9 : decode cX9_its 9 = .ok (.imul, 1) := by decide +kernel
theorem dX9_its_10 : decode cX9_its 10 = .ok (.iadd, 1) := by decide +kernel
theorem dX9_its_11 : decode cX9_its 11 = .ok (.iload_n 2, 1) := by decide +kernel
theorem dX9_its_12 : decode cX9_its 12 = .ok (.iadd, 1) := by decide +kernel
theorem dX9_its_13 : decode cX9_its 13 = .ok (.iaload, 1) := by decide +kernel
theorem dX9_its_14 : decode cX9_its 14 = .ok (.ireturn, 1) := by decide +kernel
theorem dX9_becomes_0 : decode cX9_becomes 0 = .ok (.aload_n 0, 1) := by decide +kernel
theorem dX9_becomes_1 : decode cX9_becomes 1 = .ok (.getfield 7, 3) := by decide +kernel
theorem dX9_becomes_4 : decode cX9_becomes 4 = .ok (.iload_n 1, 1) := by decide +kernel
theorem dX9_becomes_5 : decode cX9_becomes 5 = .ok (.iaload, 1) := by decide +kernel
theorem dX9_becomes_6 : decode cX9_becomes 6 = .ok (.istore_n 3, 1) := by decide +kernel
theorem dX9_becomes_7 : decode cX9_becomes 7 = .ok (.aload_n 0, 1) := by decide +kernel
theorem dX9_becomes_8 : decode cX9_becomes 8 = .ok (.getfield 7, 3) := by decide +kernel
theorem dX9_becomes_11 : decode cX9_becomes 11 = .ok (.iload_n 1, 1) := by decide +kernel
theorem dX9_becomes_12 : decode cX9_becomes 12 = .ok (.iload_n 2, 1) := by decide +kernel
theorem dX9_becomes_13 : decode cX9_becomes 13 = .ok (.iastore, 1) := by decide +kernel
theorem dX9_becomes_14 : decode cX9_becomes 14 = .ok (.iload_n 3, 1) := by decide +kernel
theorem dX9_becomes_15 : decode cX9_becomes 15 = .ok (.ireturn, 1) := by decide +kernel
theorem dX9_copyRow_0 : decode cX9_copyRow 0 = .ok (.iconst 0, 1) := by decide +kernel
theorem dX9_copyRow_1 : decode cX9_copyRow 1 = .ok (.istore_n 2, 1) := by decide +kernel
theorem dX9_copyRow_2 : decode cX9_copyRow 2 = .ok (.iload_n 2, 1) := by decide +kernel
theorem dX9_copyRow_3 : decode cX9_copyRow 3 = .ok (.bipush 57, 2) := by decide +kernel
theorem dX9_copyRow_5 : decode cX9_copyRow 5 = .ok (.if_icmp .ge 15, 3) := by decide +kernel
theorem dX9_copyRow_8 : decode cX9_copyRow 8 = .ok (.aload_n 1, 1) := by decide +kernel
theorem dX9_copyRow_9 : decode cX9_copyRow 9 = .ok (.iload_n 2, 1) := by decide +kernel
theorem dX9_copyRow_10 : decode cX9_copyRow 10 = .ok (.aload_n 0, 1) := by decide +kernel
theorem dX9_copyRow_11 : decode cX9_copyRow 11 = .ok (.iload_n 2, 1) := by decide +kernel
theorem dX9_copyRow_12 : decode cX9_copyRow 12 = .ok (.iaload, 1) := by decide +kernel
theorem dX9_copyRow_13 : decode cX9_copyRow 13 = .ok (.iastore, 1) := by decide +kernel
theorem dX9_copyRow_14 : decode cX9_copyRow 14 = .ok (.iinc 2 1, 3) := by decide +kernel
theorem dX9_copyRow_17 : decode cX9_copyRow 17 = .ok (.goto (-15), 3) := by decide +kernel
theorem dX9_copyRow_20 : decode cX9_copyRow 20 = .ok (.return_, 1) := by decide +kernel
theorem dX9_least_0 : decode cX9_least 0 = .ok (.iload_n 0, 1) := by decide +kernel
theorem dX9_least_1 : decode cX9_least 1 = .ok (.iload_n 1, 1) := by decide +kernel
theorem dX9_least_2 : decode cX9_least 2 = .ok (.if_icmp .ge 7, 3) := by decide +kernel
theorem dX9_least_5 : decode cX9_least 5 = .ok (.iload_n 0, 1) := by decide +kernel
theorem dX9_least_6 : decode cX9_least 6 = .ok (.goto 4, 3) := by decide +kernel
theorem dX9_least_9 : decode cX9_least 9 = .ok (.iload_n 1, 1) := by decide +kernel
theorem dX9_least_10 : decode cX9_least 10 = .ok (.ireturn, 1) := by decide +kernel
theorem dX9_greatest_0 : decode cX9_greatest 0 = .ok (.iload_n 0, 1) := by decide +kernel
theorem dX9_greatest_1 : decode cX9_greatest 1 = .ok (.iload_n 1, 1) := by decide +kernel
theorem dX9_greatest_2 : decode cX9_greatest 2 = .ok (.if_icmp .le 7, 3) := by decide +kernel
theorem dX9_greatest_5 : decode cX9_greatest 5 = .ok (.iload_n 0, 1) := by decide +kernel
theorem dX9_greatest_6 : decode cX9_greatest 6 = .ok (.goto 4, 3) := by decide +kernel
theorem dX9_greatest_9 : decode cX9_greatest 9 = .ok (.iload_n 1, 1) := by decide +kernel
theorem dX9_greatest_10 : decode cX9_greatest 10 = .ok (.ireturn, 1) := by decide +kernel
theorem dX9_within_0 : decode cX9_within 0 = .ok (.iload_n 0, 1) := by decide +kernel
theorem dX9_within_1 : decode cX9_within 1 = .ok (.ifCond .ge 7, 3) := by decide +kernel
theorem dX9_within_4 : decode cX9_within 4 = .ok (.iconst 0, 1) := by decide +kernel
theorem dX9_within_5 : decode cX9_within 5 = .ok (.goto 15, 3) := by decide +kernel
theorem dX9_within_8 : decode cX9_within 8 = .ok (.iload_n 0, 1) := by decide +kernel
theorem dX9_within_9 : decode cX9_within 9 = .ok (.bipush 99, 2) := by decide +kernel
theorem dX9_within_11 : decode cX9_within 11 = .ok (.if_icmp .le 8, 3) := by decide +kernel
theorem dX9_within_14 : decode cX9_within 14 = .ok (.bipush 99, 2) := by decide +kernel
theorem dX9_within_16 : decode cX9_within 16 = .ok (.goto 4, 3) := by decide +kernel
theorem dX9_within_19 : decode cX9_within 19 = .ok (.iload_n 0, 1) := by decide +kernel
theorem dX9_within_20 : decode cX9_within 20 = .ok (.ireturn, 1) := by decide +kernel
theorem dX9_size_0 : decode cX9_size 0 = .ok (.iconst 0, 1) := by decide +kernel
theorem dX9_size_1 : decode cX9_size 1 = .ok (.istore_n 1, 1) := by decide +kernel
theorem dX9_size_2 : decode cX9_size 2 = .ok (.iload_n 0, 1) := by decide +kernel
theorem dX9_size_3 : decode cX9_size 3 = .ok (.istore_n 2, 1) := by decide +kernel
theorem dX9_size_4 : decode cX9_size 4 = .ok (.iload_n 2, 1) := by decide +kernel
theorem dX9_size_5 : decode cX9_size 5 = .ok (.ifCond .eq 15, 3) := by decide +kernel
theorem dX9_size_8 : decode cX9_size 8 = .ok (.iinc 1 1, 3) := by decide +kernel
theorem dX9_size_11 : decode cX9_size 11 = .ok (.iload_n 2, 1) := by decide +kernel
theorem dX9_size_12 : decode cX9_size 12 = .ok (.iload_n 2, 1) := by decide +kernel
theorem dX9_size_13 : decode cX9_size 13 = .ok (.iconst 1, 1) := by decide +kernel
theorem dX9_size_14 : decode cX9_size 14 = .ok (.isub, 1) := by decide +kernel
theorem dX9_size_15 : decode cX9_size 15 = .ok (.iand, 1) := by decide +kernel
theorem dX9_size_16 : decode cX9_size 16 = .ok (.istore_n 2, 1) := by decide +kernel
theorem dX9_size_17 : decode cX9_size 17 = .ok (.goto (-13), 3) := by decide +kernel
theorem dX9_size_20 : decode cX9_size 20 = .ok (.iload_n 1, 1) := by decide +kernel
theorem dX9_size_21 : decode cX9_size 21 = .ok (.ireturn, 1) := by decide +kernel
theorem dX9_isUnder_0 : decode cX9_isUnder 0 = .ok (.iload_n 1, 1) := by decide +kernel
theorem dX9_isUnder_1 : decode cX9_isUnder 1 = .ok (.ifCond .eq 28, 3) := by decide +kernel
theorem dX9_isUnder_4 : decode cX9_isUnder 4 = .ok (.iload_n 0, 1) := by decide +kernel
theorem dX9_isUnder_5 : decode cX9_isUnder 5 = .ok (.iload_n 1, 1) := by decide +kernel
theorem dX9_isUnder_6 : decode cX9_isUnder 6 = .ok (.if_icmp .eq 23, 3) := by decide +kernel
theorem dX9_isUnder_9 : decode cX9_isUnder 9 = .ok (.iload_n 1, 1) := by decide +kernel
theorem dX9_isUnder_10 : decode cX9_isUnder 10 = .ok (.iconst 1, 1) := by decide +kernel
theorem dX9_isUnder_11 : decode cX9_isUnder 11 = .ok (.if_icmp .ne 8, 3) := by decide +kernel
theorem dX9_isUnder_14 : decode cX9_isUnder 14 = .ok (.iload_n 0, 1) := by decide +kernel
theorem dX9_isUnder_15 : decode cX9_isUnder 15 = .ok (.iconst 3, 1) := by decide +kernel
theorem dX9_isUnder_16 : decode cX9_isUnder 16 = .ok (.if_icmp .eq 13, 3) := by decide +kernel
theorem dX9_isUnder_19 : decode cX9_isUnder 19 = .ok (.iload_n 1, 1) := by decide +kernel
theorem dX9_isUnder_20 : decode cX9_isUnder 20 = .ok (.iconst 2, 1) := by decide +kernel
theorem dX9_isUnder_21 : decode cX9_isUnder 21 = .ok (.if_icmp .ne 12, 3) := by decide +kernel
theorem dX9_isUnder_24 : decode cX9_isUnder 24 = .ok (.iload_n 0, 1) := by decide +kernel
theorem dX9_isUnder_25 : decode cX9_isUnder 25 = .ok (.iconst 4, 1) := by decide +kernel
theorem dX9_isUnder_26 : decode cX9_isUnder 26 = .ok (.if_icmp .ne 7, 3) := by decide +kernel
theorem dX9_isUnder_29 : decode cX9_isUnder 29 = .ok (.iconst 1, 1) := by decide +kernel
theorem dX9_isUnder_30 : decode cX9_isUnder 30 = .ok (.goto 4, 3) := by decide +kernel
theorem dX9_isUnder_33 : decode cX9_isUnder 33 = .ok (.iconst 0, 1) := by decide +kernel
theorem dX9_isUnder_34 : decode cX9_isUnder 34 = .ok (.ireturn, 1) := by decide +kernel
set_option maxRecDepth 20000 in
theorem ggX9_feed_X9_isIn : GoodIn wsX9_feed wsX9_isIn := goodIn_r _ [8] (by decide +kernel) (by decide +kernel)
set_option maxRecDepth 20000 in
theorem gX9_feed_X9_isIn : GoodIn wsX9_feed (va_wsS RX9 60 yX9_isIn wsX9_isIn) := goodIn_app (goodIn_of _ (by decide +kernel)) ggX9_feed_X9_isIn
theorem dX9_feed_0 : decode cX9_feed 0 = .ok (.iload_n 3, 1) := by decide +kernel
theorem dX9_feed_1 : decode cX9_feed 1 = .ok (.i2l, 1) := by decide +kernel
theorem dX9_feed_2 : decode cX9_feed 2 = .ok (.lconst 1, 1) := by decide +kernel
theorem dX9_feed_3 : decode cX9_feed 3 = .ok (.ldc2_w 58, 3) := by decide +kernel
theorem dX9_feed_6 : decode cX9_feed 6 = .ok (.invokestatic 60, 3) := by decide +kernel
theorem dX9_feed_9 : decode cX9_feed 9 = .ok (.ifCond .ne 5, 3) := by decide +kernel
theorem dX9_feed_12 : decode cX9_feed 12 = .ok (.iconst (-1), 1) := by decide +kernel
theorem dX9_feed_13 : decode cX9_feed 13 = .ok (.ireturn, 1) := by decide +kernel
theorem dX9_feed_14 : decode cX9_feed 14 = .ok (.aload_n 0, 1) := by decide +kernel
theorem dX9_feed_15 : decode cX9_feed 15 = .ok (.getfield 64, 3) := by decide +kernel
theorem dX9_feed_18 : decode cX9_feed 18 = .ok (.iload_n 3, 1) := by decide +kernel
theorem dX9_feed_19 : decode cX9_feed 19 = .ok (.iadd, 1) := by decide +kernel
theorem dX9_feed_20 : decode cX9_feed 20 = .ok (.sipush 200, 3) := by decide +kernel
theorem dX9_feed_23 : decode cX9_feed 23 = .ok (.if_icmp .le 6, 3) := by decide +kernel
theorem dX9_feed_26 : decode cX9_feed 26 = .ok (.bipush (-2), 2) := by decide +kernel
theorem dX9_feed_28 : decode cX9_feed 28 = .ok (.ireturn, 1) := by decide +kernel
theorem dX9_feed_29 : decode cX9_feed 29 = .ok (.iconst 0, 1) := by decide +kernel
theorem dX9_feed_30 : decode cX9_feed 30 = .ok (.istore 4, 2) := by decide +kernel
theorem dX9_feed_32 : decode cX9_feed 32 = .ok (.iload 4, 2) := by decide +kernel
theorem dX9_feed_34 : decode cX9_feed 34 = .ok (.iload_n 3, 1) := by decide +kernel
theorem dX9_feed_35 : decode cX9_feed 35 = .ok (.if_icmp .ge 40, 3) := by decide +kernel
theorem dX9_feed_38 : decode cX9_feed 38 = .ok (.aload_n 0, 1) := by decide +kernel
theorem dX9_feed_39 : decode cX9_feed 39 = .ok (.getfield 22, 3) := by decide +kernel
theorem dX9_feed_42 : decode cX9_feed 42 = .ok (.aload_n 0, 1) := by decide +kernel
theorem dX9_feed_43 : decode cX9_feed 43 = .ok (.getfield 64, 3) := by decide +kernel
theorem dX9_feed_46 : decode cX9_feed 46 = .ok (.lload_n 1, 1) := by decide +kernel
theorem dX9_feed_47 : decode cX9_feed 47 = .ok (.bipush 8, 2) := by decide +kernel
theorem dX9_feed_49 : decode cX9_feed 49 = .ok (.iload 4, 2) := by decide +kernel
theorem dX9_feed_51 : decode cX9_feed 51 = .ok (.imul, 1) := by decide +kernel
theorem dX9_feed_52 : decode cX9_feed 52 = .ok (.lshr, 1) := by decide +kernel
theorem dX9_feed_53 : decode cX9_feed 53 = .ok (.ldc2_w 68, 3) := by decide +kernel
theorem dX9_feed_56 : decode cX9_feed 56 = .ok (.land, 1) := by decide +kernel
theorem dX9_feed_57 : decode cX9_feed 57 = .ok (.l2i, 1) := by decide +kernel
theorem dX9_feed_58 : decode cX9_feed 58 = .ok (.iastore, 1) := by decide +kernel
theorem dX9_feed_59 : decode cX9_feed 59 = .ok (.aload_n 0, 1) := by decide +kernel
theorem dX9_feed_60 : decode cX9_feed 60 = .ok (.dup, 1) := by decide +kernel
theorem dX9_feed_61 : decode cX9_feed 61 = .ok (.getfield 64, 3) := by decide +kernel
theorem dX9_feed_64 : decode cX9_feed 64 = .ok (.iconst 1, 1) := by decide +kernel
theorem dX9_feed_65 : decode cX9_feed 65 = .ok (.iadd, 1) := by decide +kernel
theorem dX9_feed_66 : decode cX9_feed 66 = .ok (.putfield 64, 3) := by decide +kernel
theorem dX9_feed_69 : decode cX9_feed 69 = .ok (.iinc 4 1, 3) := by decide +kernel
theorem dX9_feed_72 : decode cX9_feed 72 = .ok (.goto (-40), 3) := by decide +kernel
theorem dX9_feed_75 : decode cX9_feed 75 = .ok (.aload_n 0, 1) := by decide +kernel
theorem dX9_feed_76 : decode cX9_feed 76 = .ok (.getfield 64, 3) := by decide +kernel
theorem dX9_feed_79 : decode cX9_feed 79 = .ok (.ireturn, 1) := by decide +kernel
theorem dX9_isAlpha_0 : decode cX9_isAlpha 0 = .ok (.iload_n 0, 1) := by decide +kernel
theorem dX9_isAlpha_1 : decode cX9_isAlpha 1 = .ok (.bipush 97, 2) := by decide +kernel
theorem dX9_isAlpha_3 : decode cX9_isAlpha 3 = .ok (.if_icmp .lt 13, 3) := by decide +kernel
theorem dX9_isAlpha_6 : decode cX9_isAlpha 6 = .ok (.iload_n 0, 1) := by decide +kernel
theorem dX9_isAlpha_7 : decode cX9_isAlpha 7 = .ok (.bipush 122, 2) := by decide +kernel
theorem dX9_isAlpha_9 : decode cX9_isAlpha 9 = .ok (.if_icmp .gt 7, 3) := by decide +kernel
theorem dX9_isAlpha_12 : decode cX9_isAlpha 12 = .ok (.iconst 1, 1) := by decide +kernel
theorem dX9_isAlpha_13 : decode cX9_isAlpha 13 = .ok (.goto 4, 3) := by decide +kernel
theorem dX9_isAlpha_16 : decode cX9_isAlpha 16 = .ok (.iconst 0, 1) := by decide +kernel
theorem dX9_isAlpha_17 : decode cX9_isAlpha 17 = .ok (.ireturn, 1) := by decide +kernel
theorem dX9_isDigit_0 : decode cX9_isDigit 0 = .ok (.iload_n 0, 1) := by decide +kernel
theorem dX9_isDigit_1 : decode cX9_isDigit 1 = .ok (.bipush 48, 2) := by decide +kernel
theorem dX9_isDigit_3 : decode cX9_isDigit 3 = .ok (.if_icmp .lt 13, 3) := by decide +kernel
theorem dX9_isDigit_6 : decode cX9_isDigit 6 = .ok (.iload_n 0, 1) := by decide +kernel
theorem dX9_isDigit_7 : decode cX9_isDigit 7 = .ok (.bipush 57, 2) := by decide +kernel
theorem dX9_isDigit_9 : decode cX9_isDigit 9 = .ok (.if_icmp .gt 7, 3) := by decide +kernel
theorem dX9_isDigit_12 : decode cX9_isDigit 12 = .ok (.iconst 1, 1) := by decide +kernel
theorem dX9_isDigit_13 : decode cX9_isDigit 13 = .ok (.goto 4, 3) := by decide +kernel
theorem dX9_isDigit_16 : decode cX9_isDigit 16 = .ok (.iconst 0, 1) := by decide +kernel
theorem dX9_isDigit_17 : decode cX9_isDigit 17 = .ok (.ireturn, 1) := by decide +kernel
theorem dX9_byteAt_0 : decode cX9_byteAt 0 = .ok (.iload_n 1, 1) := by decide +kernel
theorem dX9_byteAt_1 : decode cX9_byteAt 1 = .ok (.aload_n 0, 1) := by decide +kernel
theorem dX9_byteAt_2 : decode cX9_byteAt 2 = .ok (.getfield 64, 3) := by decide +kernel
theorem dX9_byteAt_5 : decode cX9_byteAt 5 = .ok (.if_icmp .ge 12, 3) := by decide +kernel
theorem dX9_byteAt_8 : decode cX9_byteAt 8 = .ok (.aload_n 0, 1) := by decide +kernel
theorem dX9_byteAt_9 : decode cX9_byteAt 9 = .ok (.getfield 22, 3) := by decide +kernel
theorem dX9_byteAt_12 : decode cX9_byteAt 12 = .ok (.iload_n 1, 1) := by decide +kernel
theorem dX9_byteAt_13 : decode cX9_byteAt 13 = .ok (.iaload, 1) := by decide +kernel
theorem dX9_byteAt_14 : decode cX9_byteAt 14 = .ok (.goto 4, 3) := by decide +kernel
theorem dX9_byteAt_17 : decode cX9_byteAt 17 = .ok (.iconst (-1), 1) := by decide +kernel
theorem dX9_byteAt_18 : decode cX9_byteAt 18 = .ok (.ireturn, 1) := by decide +kernel
set_option maxRecDepth 20000 in
theorem ggX9_nextToken_X9_byteAt : GoodIn wsX9_nextToken wsX9_byteAt := goodIn_r _ [9, 10, 11, 18, 19, 20, 21, 22, 23, 24, 25, 26, 27, 28, 29, 30, 31, 32, 33, 34, 35, 36, 37, 38, 39, 40, 41, 42, 43, 44, 45, 46] (by decide +kernel) (by decide +kernel)
set_option maxRecDepth 20000 in
theorem gX9_nextToken_X9_byteAt : GoodIn wsX9_nextToken (wsV RX9 76 RX9 yX9_byteAt wsX9_byteAt) := goodIn_app (goodIn_of _ (by decide +kernel)) ggX9_nextToken_X9_byteAt
set_option maxRecDepth 20000 in
theorem ggX9_nextToken_X9_isAlpha : GoodIn wsX9_nextToken wsX9_isAlpha := goodIn_r _ [14] (by decide +kernel) (by decide +kernel)
set_option maxRecDepth 20000 in
theorem gX9_nextToken_X9_isAlpha : GoodIn wsX9_nextToken (va_wsS RX9 80 yX9_isAlpha wsX9_isAlpha) := goodIn_app (goodIn_of _ (by decide +kernel)) ggX9_nextToken_X9_isAlpha
set_option maxRecDepth 20000 in
theorem ggX9_nextToken_X9_isDigit : GoodIn wsX9_nextToken wsX9_isDigit := goodIn_r _ [17] (by decide +kernel) (by decide +kernel)
set_option maxRecDepth 20000 in
theorem gX9_nextToken_X9_isDigit : GoodIn wsX9_nextToken (va_wsS RX9 84 yX9_isDigit wsX9_isDigit) := goodIn_app (goodIn_of _ (by decide +kernel)) ggX9_nextToken_X9_isDigit
theorem dX9_nextToken_0 : decode cX9_nextToken 0 = .ok (.aload_n 0, 1) := by decide +kernel
theorem dX9_nextToken_1 : decode cX9_nextToken 1 = .ok (.aload_n 0, 1) := by decide +kernel
theorem dX9_nextToken_2 : decode cX9_nextToken 2 = .ok (.getfield 70, 3) := by decide +kernel
theorem dX9_nextToken_5 : decode cX9_nextToken 5 = .ok (.putfield 73, 3) := by decide +kernel
theorem dX9_nextToken_8 : decode cX9_nextToken 8 = .ok (.aload_n 0, 1) := by decide +kernel
theorem dX9_nextToken_9 : decode cX9_nextToken 9 = .ok (.aload_n 0, 1) := by decide +kernel
theorem dX9_nextToken_10 : decode cX9_nextToken 10 = .ok (.getfield 73, 3) := by decide +kernel
theorem dX9_nextToken_13 : decode cX9_nextToken 13 = .ok (.invokevirtual 76, 3) := by decide +kernel
theorem dX9_nextToken_16 : decode cX9_nextToken 16 = .ok (.bipush 32, 2) := by decide +kernel
theorem dX9_nextToken_18 : decode cX9_nextToken 18 = .ok (.if_icmp .ne 16, 3) := by decide +kernel
theorem dX9_nextToken_21 : decode cX9_nextToken 21 = .ok (.aload_n 0, 1) := by decide +kernel
theorem dX9_nextToken_22 : decode cX9_nextToken 22 = .ok (.dup, 1) := by decide +kernel
theorem dX9_nextToken_23 : decode cX9_nextToken 23 = .ok (.getfield 73, 3) := by decide +kernel
theorem dX9_nextToken_26 : decode cX9_nextToken 26 = .ok (.iconst 1, 1) := by decide +kernel
theorem dX9_nextToken_27 : decode cX9_nextToken 27 = .ok (.iadd, 1) := by decide +kernel
theorem dX9_nextToken_28 : decode cX9_nextToken 28 = .ok (.putfield 73, 3) := by decide +kernel
theorem dX9_nextToken_31 : decode cX9_nextToken 31 = .ok (.goto (-23), 3) := by decide +kernel
theorem dX9_nextToken_34 : decode cX9_nextToken 34 = .ok (.aload_n 0, 1) := by decide +kernel
theorem dX9_nextToken_35 : decode cX9_nextToken 35 = .ok (.aload_n 0, 1) := by decide +kernel
theorem dX9_nextToken_36 : decode cX9_nextToken 36 = .ok (.getfield 73, 3) := by decide +kernel
theorem dX9_nextToken_39 : decode cX9_nextToken 39 = .ok (.putfield 70, 3) := by decide +kernel
theorem dX9_nextToken_42 : decode cX9_nextToken 42 = .ok (.aload_n 0, 1) := by decide +kernel
theorem dX9_nextToken_43 : decode cX9_nextToken 43 = .ok (.aload_n 0, 1) := by decide +kernel
theorem dX9_nextToken_44 : decode cX9_nextToken 44 = .ok (.getfield 73, 3) := by decide +kernel
theorem dX9_nextToken_47 : decode cX9_nextToken 47 = .ok (.invokevirtual 76, 3) := by decide +kernel
theorem dX9_nextToken_50 : decode cX9_nextToken 50 = .ok (.istore_n 1, 1) := by decide +kernel
theorem dX9_nextToken_51 : decode cX9_nextToken 51 = .ok (.aload_n 0, 1) := by decide +kernel
theorem dX9_nextToken_52 : decode cX9_nextToken 52 = .ok (.iload_n 1, 1) := by decide +kernel
theorem dX9_nextToken_53 : decode cX9_nextToken 53 = .ok (.ifCond .ge 7, 3) := by decide +kernel
theorem dX9_nextToken_56 : decode cX9_nextToken 56 = .ok (.iconst 0, 1) := by decide +kernel
theorem dX9_nextToken_57 : decode cX9_nextToken 57 = .ok (.goto 26, 3) := by decide +kernel
theorem dX9_nextToken_60 : decode cX9_nextToken 60 = .ok (.iload_n 1, 1) := by decide +kernel
theorem dX9_nextToken_61 : decode cX9_nextToken 61 = .ok (.invokestatic 80, 3) := by decide +kernel
theorem dX9_nextToken_64 : decode cX9_nextToken 64 = .ok (.ifCond .eq 7, 3) := by decide +kernel
theorem dX9_nextToken_67 : decode cX9_nextToken 67 = .ok (.iconst 1, 1) := by decide +kernel
theorem dX9_nextToken_68 : decode cX9_nextToken 68 = .ok (.goto 15, 3) := by decide +kernel
theorem dX9_nextToken_71 : decode cX9_nextToken 71 = .ok (.iload_n 1, 1) := by decide +kernel
theorem dX9_nextToken_72 : decode cX9_nextToken 72 = .ok (.invokestatic 84, 3) := by decide +kernel
theorem dX9_nextToken_75 : decode cX9_nextToken 75 = .ok (.ifCond .eq 7, 3) := by decide +kernel
theorem dX9_nextToken_78 : decode cX9_nextToken 78 = .ok (.iconst 2, 1) := by decide +kernel
theorem dX9_nextToken_79 : decode cX9_nextToken 79 = .ok (.goto 4, 3) := by decide +kernel
theorem dX9_nextToken_82 : decode cX9_nextToken 82 = .ok (.iconst 3, 1) := by decide +kernel
theorem dX9_nextToken_83 : decode cX9_nextToken 83 = .ok (.putfield 87, 3) := by decide +kernel
theorem dX9_nextToken_86 : decode cX9_nextToken 86 = .ok (.aload_n 0, 1) := by decide +kernel
theorem dX9_nextToken_87 : decode cX9_nextToken 87 = .ok (.iconst 0, 1) := by decide +kernel
theorem dX9_nextToken_88 : decode cX9_nextToken 88 = .ok (.putfield 90, 3) := by decide +kernel
theorem dX9_nextToken_91 : decode cX9_nextToken 91 = .ok (.aload_n 0, 1) := by decide +kernel
theorem dX9_nextToken_92 : decode cX9_nextToken 92 = .ok (.getfield 87, 3) := by decide +kernel
theorem dX9_nextToken_95 : decode cX9_nextToken 95 = .ok (.iconst 1, 1) := by decide +kernel
theorem dX9_nextToken_96 : decode cX9_nextToken 96 = .ok (.if_icmp .ne 30, 3) := by decide +kernel
theorem dX9_nextToken_99 : decode cX9_nextToken 99 = .ok (.aload_n 0, 1) := by decide +kernel
theorem dX9_nextToken_100 : decode cX9_nextToken 100 = .ok (.aload_n 0, 1) := by decide +kernel
theorem dX9_nextToken_101 : decode cX9_nextToken 101 = .ok (.getfield 70, 3) := by decide +kernel
theorem dX9_nextToken_104 : decode cX9_nextToken 104 = .ok (.invokevirtual 76, 3) := by decide +kernel
theorem dX9_nextToken_107 : decode cX9_nextToken 107 = .ok (.invokestatic 80, 3) := by decide +kernel
theorem dX9_nextToken_110 : decode cX9_nextToken 110 = .ok (.ifCond .eq 16, 3) := by decide +kernel
theorem dX9_nextToken_113 : decode cX9_nextToken 113 = .ok (.aload_n 0, 1) := by decide +kernel
theorem dX9_nextToken_114 : decode cX9_nextToken 114 = .ok (.dup, 1) := by decide +kernel
theorem dX9_nextToken_115 : decode cX9_nextToken 115 = .ok (.getfield 70, 3) := by decide +kernel
theorem dX9_nextToken_118 : decode cX9_nextToken 118 = .ok (.iconst 1, 1) := by decide +kernel
theorem dX9_nextToken_119 : decode cX9_nextToken 119 = .ok (.iadd, 1) := by decide +kernel
theorem dX9_nextToken_120 : decode cX9_nextToken 120 = .ok (.putfield 70, 3) := by decide +kernel
theorem dX9_nextToken_123 : decode cX9_nextToken 123 = .ok (.goto (-32), 3) := by decide +kernel
theorem dX9_nextToken_126 : decode cX9_nextToken 126 = .ok (.aload_n 0, 1) := by decide +kernel
theorem dX9_nextToken_127 : decode cX9_nextToken 127 = .ok (.getfield 87, 3) := by decide +kernel
theorem dX9_nextToken_130 : decode cX9_nextToken 130 = .ok (.iconst 2, 1) := by decide +kernel
theorem dX9_nextToken_131 : decode cX9_nextToken 131 = .ok (.if_icmp .ne 70, 3) := by decide +kernel
theorem dX9_nextToken_134 : decode cX9_nextToken 134 = .ok (.aload_n 0, 1) := by decide +kernel
theorem dX9_nextToken_135 : decode cX9_nextToken 135 = .ok (.aload_n 0, 1) := by decide +kernel
theorem dX9_nextToken_136 : decode cX9_nextToken 136 = .ok (.getfield 70, 3) := by decide +kernel
theorem dX9_nextToken_139 : decode cX9_nextToken 139 = .ok (.invokevirtual 76, 3) := by decide +kernel
theorem dX9_nextToken_142 : decode cX9_nextToken 142 = .ok (.invokestatic 84, 3) := by decide +kernel
theorem dX9_nextToken_145 : decode cX9_nextToken 145 = .ok (.ifCond .eq 56, 3) := by decide +kernel
theorem dX9_nextToken_148 : decode cX9_nextToken 148 = .ok (.aload_n 0, 1) := by decide +kernel
theorem dX9_nextToken_149 : decode cX9_nextToken 149 = .ok (.aload_n 0, 1) := by decide +kernel
theorem dX9_nextToken_150 : decode cX9_nextToken 150 = .ok (.getfield 90, 3) := by decide +kernel
theorem dX9_nextToken_153 : decode cX9_nextToken 153 = .ok (.sipush 999, 3) := by decide +kernel
theorem dX9_nextToken_156 : decode cX9_nextToken 156 = .ok (.if_icmp .le 10, 3) := by decide +kernel
theorem dX9_nextToken_159 : decode cX9_nextToken 159 = .ok (.aload_n 0, 1) := by decide +kernel
theorem dX9_nextToken_160 : decode cX9_nextToken 160 = .ok (.getfield 90, 3) := by decide +kernel
theorem dX9_nextToken_163 : decode cX9_nextToken 163 = .ok (.goto 22, 3) := by decide +kernel
theorem dX9_nextToken_166 : decode cX9_nextToken 166 = .ok (.bipush 10, 2) := by decide +kernel
theorem dX9_nextToken_168 : decode cX9_nextToken 168 = .ok (.aload_n 0, 1) := by decide +kernel
theorem dX9_nextToken_169 : decode cX9_nextToken 169 = .ok (.getfield 90, 3) := by decide +kernel
theorem dX9_nextToken_172 : decode cX9_nextToken 172 = .ok (.imul, 1) := by decide +kernel
theorem dX9_nextToken_173 : decode cX9_nextToken 173 = .ok (.aload_n 0, 1) := by decide +kernel
theorem dX9_nextToken_174 : decode cX9_nextToken 174 = .ok (.aload_n 0, 1) := by decide +kernel
theorem dX9_nextToken_175 : decode cX9_nextToken 175 = .ok (.getfield 70, 3) := by decide +kernel
theorem dX9_nextToken_178 : decode cX9_nextToken 178 = .ok (.invokevirtual 76, 3) := by decide +kernel
theorem dX9_nextToken_181 : decode cX9_nextToken 181 = .ok (.iadd, 1) := by decide +kernel
theorem dX9_nextToken_182 : decode cX9_nextToken 182 = .ok (.bipush 48, 2) := by decide +kernel
theorem dX9_nextToken_184 : decode cX9_nextToken 184 = .ok (.isub, 1) := by decide +kernel
theorem dX9_nextToken_185 : decode cX9_nextToken 185 = .ok (.putfield 90, 3) := by decide +kernel
theorem dX9_nextToken_188 : decode cX9_nextToken 188 = .ok (.aload_n 0, 1) := by decide +kernel
theorem dX9_nextToken_189 : decode cX9_nextToken 189 = .ok (.dup, 1) := by decide +kernel
theorem dX9_nextToken_190 : decode cX9_nextToken 190 = .ok (.getfield 70, 3) := by decide +kernel
theorem dX9_nextToken_193 : decode cX9_nextToken 193 = .ok (.iconst 1, 1) := by decide +kernel
theorem dX9_nextToken_194 : decode cX9_nextToken 194 = .ok (.iadd, 1) := by decide +kernel
theorem dX9_nextToken_195 : decode cX9_nextToken 195 = .ok (.putfield 70, 3) := by decide +kernel
theorem dX9_nextToken_198 : decode cX9_nextToken 198 = .ok (.goto (-72), 3) := by decide +kernel
theorem dX9_nextToken_201 : decode cX9_nextToken 201 = .ok (.aload_n 0, 1) := by decide +kernel
theorem dX9_nextToken_202 : decode cX9_nextToken 202 = .ok (.dup, 1) := by decide +kernel
theorem dX9_nextToken_203 : decode cX9_nextToken 203 = .ok (.getfield 70, 3) := by decide +kernel
theorem dX9_nextToken_206 : decode cX9_nextToken 206 = .ok (.aload_n 0, 1) := by decide +kernel
theorem dX9_nextToken_207 : decode cX9_nextToken 207 = .ok (.getfield 87, 3) := by decide +kernel
theorem dX9_nextToken_210 : decode cX9_nextToken 210 = .ok (.iconst 2, 1) := by decide +kernel
theorem dX9_nextToken_211 : decode cX9_nextToken 211 = .ok (.if_icmp .le 7, 3) := by decide +kernel
theorem dX9_nextToken_214 : decode cX9_nextToken 214 = .ok (.iconst 1, 1) := by decide +kernel
theorem dX9_nextToken_215 : decode cX9_nextToken 215 = .ok (.goto 4, 3) := by decide +kernel
theorem dX9_nextToken_218 : decode cX9_nextToken 218 = .ok (.iconst 0, 1) := by decide +kernel
theorem dX9_nextToken_219 : decode cX9_nextToken 219 = .ok (.iadd, 1) := by decide +kernel
theorem dX9_nextToken_220 : decode cX9_nextToken 220 = .ok (.putfield 70, 3) := by decide +kernel
theorem dX9_nextToken_223 : decode cX9_nextToken 223 = .ok (.return_, 1) := by decide +kernel
set_option maxRecDepth 20000 in
theorem ggX9_needs_X9_nextToken : GoodIn wsX9_needs wsX9_nextToken := goodIn_r _ [6, 7, 8, 9, 10, 11, 12, 13, 5, 14, 15, 16, 17, 18, 19, 20, 21, 22, 23, 24, 25, 26, 27, 28, 29, 30, 31, 32, 33, 34, 35, 36, 37, 38, 39, 40, 41, 42, 43, 44, 45, 46, 47, 48, 49, 50, 51] (by decide +kernel) (by decide +kernel)
set_option maxRecDepth 20000 in
theorem gX9_needs_X9_nextToken : GoodIn wsX9_needs (wsV RX9 97 RX9 yX9_nextToken wsX9_nextToken) := goodIn_app (goodIn_of _ (by decide +kernel)) ggX9_needs_X9_nextToken
theorem dX9_needs_0 : decode cX9_needs 0 = .ok (.aload_n 0, 1) := by decide +kernel
theorem dX9_needs_1 : decode cX9_needs 1 = .ok (.aload_n 0, 1) := by decide +kernel
theorem dX9_needs_2 : decode cX9_needs 2 = .ok (.getfield 93, 3) := by decide +kernel
theorem dX9_needs_5 : decode cX9_needs 5 = .ok (.ifCond .ne 7, 3) := by decide +kernel
theorem dX9_needs_8 : decode cX9_needs 8 = .ok (.iload_n 1, 1) := by decide +kernel
theorem dX9_needs_9 : decode cX9_needs 9 = .ok (.ifCond .ne 7, 3) := by decide +kernel
theorem dX9_needs_12 : decode cX9_needs 12 = .ok (.iconst 1, 1) := by decide +kernel
theorem dX9_needs_13 : decode cX9_needs 13 = .ok (.goto 4, 3) := by decide +kernel
theorem dX9_needs_16 : decode cX9_needs 16 = .ok (.iconst 0, 1) := by decide +kernel
theorem dX9_needs_17 : decode cX9_needs 17 = .ok (.putfield 93, 3) := by decide +kernel
theorem dX9_needs_20 : decode cX9_needs 20 = .ok (.aload_n 0, 1) := by decide +kernel
theorem dX9_needs_21 : decode cX9_needs 21 = .ok (.getfield 93, 3) := by decide +kernel
theorem dX9_needs_24 : decode cX9_needs 24 = .ok (.ifCond .ne 7, 3) := by decide +kernel
theorem dX9_needs_27 : decode cX9_needs 27 = .ok (.aload_n 0, 1) := by decide +kernel
theorem dX9_needs_28 : decode cX9_needs 28 = .ok (.invokevirtual 97, 3) := by decide +kernel
theorem dX9_needs_31 : decode cX9_needs 31 = .ok (.return_, 1) := by decide +kernel
set_option maxRecDepth 20000 in
theorem ggX9_isName_X9_byteAt : GoodIn wsX9_isName wsX9_byteAt := goodIn_r _ [8, 9, 10, 11, 12, 13, 14, 15, 16, 17, 18, 19, 20, 21, 22, 23, 24, 25, 26, 27, 28, 29, 30, 31, 32, 33, 34, 35, 36, 37, 38, 39] (by decide +kernel) (by decide +kernel)
set_option maxRecDepth 20000 in
theorem gX9_isName_X9_byteAt : GoodIn wsX9_isName (wsV RX9 76 RX9 yX9_byteAt wsX9_byteAt) := goodIn_app (goodIn_of _ (by decide +kernel)) ggX9_isName_X9_byteAt
theorem dX9_isName_0 : decode cX9_isName 0 = .ok (.aload_n 0, 1) := by decide +kernel
theorem dX9_isName_1 : decode cX9_isName 1 = .ok (.getfield 87, 3) := by decide +kernel
theorem dX9_isName_4 : decode cX9_isName 4 = .ok (.iconst 1, 1) := by decide +kernel
theorem dX9_isName_5 : decode cX9_isName 5 = .ok (.if_icmp .ne 76, 3) := by decide +kernel
theorem dX9_isName_8 : decode cX9_isName 8 = .ok (.aload_n 0, 1) := by decide +kernel
theorem dX9_isName_9 : decode cX9_isName 9 = .ok (.getfield 70, 3) := by decide +kernel
theorem dX9_isName_12 : decode cX9_isName 12 = .ok (.aload_n 0, 1) := by decide +kernel
theorem dX9_isName_13 : decode cX9_isName 13 = .ok (.getfield 73, 3) := by decide +kernel
theorem dX9_isName_16 : decode cX9_isName 16 = .ok (.isub, 1) := by decide +kernel
theorem dX9_isName_17 : decode cX9_isName 17 = .ok (.iload_n 1, 1) := by decide +kernel
theorem dX9_isName_18 : decode cX9_isName 18 = .ok (.if_icmp .ne 63, 3) := by decide +kernel
theorem dX9_isName_21 : decode cX9_isName 21 = .ok (.aload_n 0, 1) := by decide +kernel
theorem dX9_isName_22 : decode cX9_isName 22 = .ok (.aload_n 0, 1) := by decide +kernel
theorem dX9_isName_23 : decode cX9_isName 23 = .ok (.getfield 73, 3) := by decide +kernel
theorem dX9_isName_26 : decode cX9_isName 26 = .ok (.invokevirtual 76, 3) := by decide +kernel
theorem dX9_isName_29 : decode cX9_isName 29 = .ok (.iload_n 2, 1) := by decide +kernel
theorem dX9_isName_30 : decode cX9_isName 30 = .ok (.if_icmp .ne 51, 3) := by decide +kernel
theorem dX9_isName_33 : decode cX9_isName 33 = .ok (.aload_n 0, 1) := by decide +kernel
theorem dX9_isName_34 : decode cX9_isName 34 = .ok (.aload_n 0, 1) := by decide +kernel
theorem dX9_isName_35 : decode cX9_isName 35 = .ok (.getfield 73, 3) := by decide +kernel
theorem dX9_isName_38 : decode cX9_isName 38 = .ok (.iconst 1, 1) := by decide +kernel
theorem dX9_isName_39 : decode cX9_isName 39 = .ok (.iadd, 1) := by decide +kernel
theorem dX9_isName_40 : decode cX9_isName 40 = .ok (.invokevirtual 76, 3) := by decide +kernel
theorem dX9_isName_43 : decode cX9_isName 43 = .ok (.iload_n 3, 1) := by decide +kernel
theorem dX9_isName_44 : decode cX9_isName 44 = .ok (.if_icmp .ne 37, 3) := by decide +kernel
theorem dX9_isName_47 : decode cX9_isName 47 = .ok (.aload_n 0, 1) := by decide +kernel
theorem dX9_isName_48 : decode cX9_isName 48 = .ok (.aload_n 0, 1) := by decide +kernel
theorem dX9_isName_49 : decode cX9_isName 49 = .ok (.getfield 73, 3) := by decide +kernel
theorem dX9_isName_52 : decode cX9_isName 52 = .ok (.iconst 2, 1) := by decide +kernel
theorem dX9_isName_53 : decode cX9_isName 53 = .ok (.iadd, 1) := by decide +kernel
theorem dX9_isName_54 : decode cX9_isName 54 = .ok (.invokevirtual 76, 3) := by decide +kernel
theorem dX9_isName_57 : decode cX9_isName 57 = .ok (.iload 4, 2) := by decide +kernel
theorem dX9_isName_59 : decode cX9_isName 59 = .ok (.if_icmp .ne 22, 3) := by decide +kernel
theorem dX9_isName_62 : decode cX9_isName 62 = .ok (.aload_n 0, 1) := by decide +kernel
theorem dX9_isName_63 : decode cX9_isName 63 = .ok (.aload_n 0, 1) := by decide +kernel
theorem dX9_isName_64 : decode cX9_isName 64 = .ok (.getfield 70, 3) := by decide +kernel
theorem dX9_isName_67 : decode cX9_isName 67 = .ok (.iconst 1, 1) := by decide +kernel
theorem dX9_isName_68 : decode cX9_isName 68 = .ok (.isub, 1) := by decide +kernel
theorem dX9_isName_69 : decode cX9_isName 69 = .ok (.invokevirtual 76, 3) := by decide +kernel
theorem dX9_isName_72 : decode cX9_isName 72 = .ok (.iload 5, 2) := by decide +kernel
theorem dX9_isName_74 : decode cX9_isName 74 = .ok (.if_icmp .ne 7, 3) := by decide +kernel
theorem dX9_isName_77 : decode cX9_isName 77 = .ok (.iconst 1, 1) := by decide +kernel
theorem dX9_isName_78 : decode cX9_isName 78 = .ok (.goto 4, 3) := by decide +kernel
theorem dX9_isName_81 : decode cX9_isName 81 = .ok (.iconst 0, 1) := by decide +kernel
theorem dX9_isName_82 : decode cX9_isName 82 = .ok (.ireturn, 1) := by decide +kernel
set_option maxRecDepth 20000 in
theorem ggX9_isSame_X9_byteAt : GoodIn wsX9_isSame wsX9_byteAt := goodIn_r _ [6, 7, 8, 9, 10, 11, 12, 13, 14, 15, 16, 17, 18, 19, 20, 21, 22, 23, 24, 25, 26, 27, 28, 29, 30, 31, 32, 33, 34, 35, 36, 37] (by decide +kernel) (by decide +kernel)
set_option maxRecDepth 20000 in
theorem gX9_isSame_X9_byteAt : GoodIn wsX9_isSame (wsV RX9 76 RX9 yX9_byteAt wsX9_byteAt) := goodIn_app (goodIn_of _ (by decide +kernel)) ggX9_isSame_X9_byteAt
theorem dX9_isSame_0 : decode cX9_isSame 0 = .ok (.aload_n 0, 1) := by decide +kernel
theorem dX9_isSame_1 : decode cX9_isSame 1 = .ok (.aload_n 0, 1) := by decide +kernel
theorem dX9_isSame_2 : decode cX9_isSame 2 = .ok (.getfield 73, 3) := by decide +kernel
theorem dX9_isSame_5 : decode cX9_isSame 5 = .ok (.iload_n 1, 1) := by decide +kernel
theorem dX9_isSame_6 : decode cX9_isSame 6 = .ok (.iadd, 1) := by decide +kernel
theorem dX9_isSame_7 : decode cX9_isSame 7 = .ok (.invokevirtual 76, 3) := by decide +kernel
theorem dX9_isSame_10 : decode cX9_isSame 10 = .ok (.iload_n 2, 1) := by decide +kernel
theorem dX9_isSame_11 : decode cX9_isSame 11 = .ok (.if_icmp .ne 40, 3) := by decide +kernel
theorem dX9_isSame_14 : decode cX9_isSame 14 = .ok (.aload_n 0, 1) := by decide +kernel
theorem dX9_isSame_15 : decode cX9_isSame 15 = .ok (.aload_n 0, 1) := by decide +kernel
theorem dX9_isSame_16 : decode cX9_isSame 16 = .ok (.getfield 73, 3) := by decide +kernel
theorem dX9_isSame_19 : decode cX9_isSame 19 = .ok (.iload_n 1, 1) := by decide +kernel
theorem dX9_isSame_20 : decode cX9_isSame 20 = .ok (.iadd, 1) := by decide +kernel
theorem dX9_isSame_21 : decode cX9_isSame 21 = .ok (.iconst 1, 1) := by decide +kernel
theorem dX9_isSame_22 : decode cX9_isSame 22 = .ok (.iadd, 1) := by decide +kernel
theorem dX9_isSame_23 : decode cX9_isSame 23 = .ok (.invokevirtual 76, 3) := by decide +kernel
theorem dX9_isSame_26 : decode cX9_isSame 26 = .ok (.iload_n 3, 1) := by decide +kernel
theorem dX9_isSame_27 : decode cX9_isSame 27 = .ok (.if_icmp .ne 24, 3) := by decide +kernel
theorem dX9_isSame_30 : decode cX9_isSame 30 = .ok (.aload_n 0, 1) := by decide +kernel
theorem dX9_isSame_31 : decode cX9_isSame 31 = .ok (.aload_n 0, 1) := by decide +kernel
theorem dX9_isSame_32 : decode cX9_isSame 32 = .ok (.getfield 73, 3) := by decide +kernel
theorem dX9_isSame_35 : decode cX9_isSame 35 = .ok (.iload_n 1, 1) := by decide +kernel
theorem dX9_isSame_36 : decode cX9_isSame 36 = .ok (.iadd, 1) := by decide +kernel
theorem dX9_isSame_37 : decode cX9_isSame 37 = .ok (.iconst 2, 1) := by decide +kernel
theorem dX9_isSame_38 : decode cX9_isSame 38 = .ok (.iadd, 1) := by decide +kernel
theorem dX9_isSame_39 : decode cX9_isSame 39 = .ok (.invokevirtual 76, 3) := by decide +kernel
theorem dX9_isSame_42 : decode cX9_isSame 42 = .ok (.iload 4, 2) := by decide +kernel
theorem dX9_isSame_44 : decode cX9_isSame 44 = .ok (.if_icmp .ne 7, 3) := by decide +kernel
theorem dX9_isSame_47 : decode cX9_isSame 47 = .ok (.iconst 1, 1) := by decide +kernel
theorem dX9_isSame_48 : decode cX9_isSame 48 = .ok (.goto 4, 3) := by decide +kernel
theorem dX9_isSame_51 : decode cX9_isSame 51 = .ok (.iconst 0, 1) := by decide +kernel
theorem dX9_isSame_52 : decode cX9_isSame 52 = .ok (.ireturn, 1) := by decide +kernel
set_option maxRecDepth 20000 in
theorem ggX9_isFour_X9_isName : GoodIn wsX9_isFour wsX9_isName := goodIn_r _ [5, 6, 7, 8, 9, 10, 11, 4, 12, 13, 14, 15, 16, 17, 18, 19, 20, 21, 22, 23, 24, 25, 26, 27, 28, 29, 30, 31, 32, 33, 34, 35, 36, 37, 38, 39, 40, 41, 42, 43] (by decide +kernel) (by decide +kernel)
set_option maxRecDepth 20000 in
theorem gX9_isFour_X9_isName : GoodIn wsX9_isFour (wsV RX9 100 RX9 yX9_isName wsX9_isName) := goodIn_app (goodIn_of _ (by decide +kernel)) ggX9_isFour_X9_isName
theorem dX9_isFour_0 : decode cX9_isFour 0 = .ok (.aload_n 0, 1) := by decide +kernel
theorem dX9_isFour_1 : decode cX9_isFour 1 = .ok (.iconst 4, 1) := by decide +kernel
theorem dX9_isFour_2 : decode cX9_isFour 2 = .ok (.iload_n 1, 1) := by decide +kernel
theorem dX9_isFour_3 : decode cX9_isFour 3 = .ok (.iload_n 2, 1) := by decide +kernel
theorem dX9_isFour_4 : decode cX9_isFour 4 = .ok (.iload_n 3, 1) := by decide +kernel
theorem dX9_isFour_5 : decode cX9_isFour 5 = .ok (.iload 4, 2) := by decide +kernel
theorem dX9_isFour_7 : decode cX9_isFour 7 = .ok (.invokevirtual 100, 3) := by decide +kernel
theorem dX9_isFour_10 : decode cX9_isFour 10 = .ok (.ireturn, 1) := by decide +kernel
set_option maxRecDepth 20000 in
theorem ggX9_isFive_X9_isName : GoodIn wsX9_isFive wsX9_isName := goodIn_r _ [6, 7, 8, 1, 9, 10, 11, 5, 12, 13, 14, 15, 16, 17, 18, 19, 20, 21, 22, 23, 24, 25, 26, 27, 28, 29, 30, 31, 32, 33, 34, 35, 36, 37, 38, 39, 40, 41, 42, 43] (by decide +kernel) (by decide +kernel)
set_option maxRecDepth 20000 in
theorem gX9_isFive_X9_isName : GoodIn wsX9_isFive (wsV RX9 100 RX9 yX9_isName wsX9_isName) := goodIn_app (goodIn_of _ (by decide +kernel)) ggX9_isFive_X9_isName
set_option maxRecDepth 20000 in
theorem ggX9_isFive_X9_byteAt : GoodIn wsX9_isFive wsX9_byteAt := goodIn_r _ [12, 13, 14, 15, 16, 17, 18, 19, 20, 21, 22, 23, 24, 25, 26, 27, 28, 29, 30, 31, 32, 33, 34, 35, 36, 37, 38, 39, 40, 41, 42, 43] (by decide +kernel) (by decide +kernel)
set_option maxRecDepth 20000 in
theorem gX9_isFive_X9_byteAt : GoodIn wsX9_isFive (wsV RX9 76 RX9 yX9_byteAt wsX9_byteAt) := goodIn_app (goodIn_of _ (by decide +kernel)) ggX9_isFive_X9_byteAt
theorem dX9_isFive_0 : decode cX9_isFive 0 = .ok (.aload_n 0, 1) := by decide +kernel
theorem dX9_isFive_1 : decode cX9_isFive 1 = .ok (.iconst 5, 1) := by decide +kernel
theorem dX9_isFive_2 : decode cX9_isFive 2 = .ok (.iload_n 1, 1) := by decide +kernel
theorem dX9_isFive_3 : decode cX9_isFive 3 = .ok (.iload_n 2, 1) := by decide +kernel
theorem dX9_isFive_4 : decode cX9_isFive 4 = .ok (.iload_n 3, 1) := by decide +kernel
theorem dX9_isFive_5 : decode cX9_isFive 5 = .ok (.iload 5, 2) := by decide +kernel
theorem dX9_isFive_7 : decode cX9_isFive 7 = .ok (.invokevirtual 100, 3) := by decide +kernel
theorem dX9_isFive_10 : decode cX9_isFive 10 = .ok (.ifCond .eq 22, 3) := by decide +kernel
theorem dX9_isFive_13 : decode cX9_isFive 13 = .ok (.aload_n 0, 1) := by decide +kernel
theorem dX9_isFive_14 : decode cX9_isFive 14 = .ok (.aload_n 0, 1) := by decide +kernel
theorem dX9_isFive_15 : decode cX9_isFive 15 = .ok (.getfield 73, 3) := by decide +kernel
theorem dX9_isFive_18 : decode cX9_isFive 18 = .ok (.iconst 3, 1) := by decide +kernel
theorem dX9_isFive_19 : decode cX9_isFive 19 = .ok (.iadd, 1) := by decide +kernel
theorem dX9_isFive_20 : decode cX9_isFive 20 = .ok (.invokevirtual 76, 3) := by decide +kernel
theorem dX9_isFive_23 : decode cX9_isFive 23 = .ok (.iload 4, 2) := by decide +kernel
theorem dX9_isFive_25 : decode cX9_isFive 25 = .ok (.if_icmp .ne 7, 3) := by decide +kernel
theorem dX9_isFive_28 : decode cX9_isFive 28 = .ok (.iconst 1, 1) := by decide +kernel
theorem dX9_isFive_29 : decode cX9_isFive 29 = .ok (.goto 4, 3) := by decide +kernel
theorem dX9_isFive_32 : decode cX9_isFive 32 = .ok (.iconst 0, 1) := by decide +kernel
theorem dX9_isFive_33 : decode cX9_isFive 33 = .ok (.ireturn, 1) := by decide +kernel
set_option maxRecDepth 20000 in
theorem ggX9_kindHere_X9_isName : GoodIn wsX9_kindHere wsX9_isName := goodIn_r _ [5, 6, 7, 8, 9, 10, 11, 4, 12, 13, 14, 27, 28, 29, 30, 31, 32, 33, 34, 35, 36, 37, 38, 39, 40, 41, 42, 43, 44, 45, 46, 47, 48, 49, 50, 51, 52, 53, 54, 55] (by decide +kernel) (by decide +kernel)
set_option maxRecDepth 20000 in
theorem gX9_kindHere_X9_isName : GoodIn wsX9_kindHere (wsV RX9 100 RX9 yX9_isName wsX9_isName) := goodIn_app (goodIn_of _ (by decide +kernel)) ggX9_kindHere_X9_isName
set_option maxRecDepth 20000 in
theorem ggX9_kindHere_X9_isSame : GoodIn wsX9_kindHere wsX9_isSame := goodIn_r _ [18, 8, 9, 10, 11, 4, 12, 13, 14, 27, 28, 29, 30, 31, 32, 33, 34, 35, 36, 37, 38, 39, 40, 41, 42, 43, 44, 45, 46, 47, 48, 49, 50, 51, 52, 53, 54, 55] (by decide +kernel) (by decide +kernel)
set_option maxRecDepth 20000 in
theorem gX9_kindHere_X9_isSame : GoodIn wsX9_kindHere (wsV RX9 104 RX9 yX9_isSame wsX9_isSame) := goodIn_app (goodIn_of _ (by decide +kernel)) ggX9_kindHere_X9_isSame
set_option maxRecDepth 20000 in
theorem ggX9_kindHere_X9_isFour : GoodIn wsX9_kindHere wsX9_isFour := goodIn_r _ [22, 1, 2, 3, 4, 5, 6, 7, 8, 9, 10, 11, 12, 13, 14, 27, 28, 29, 30, 31, 32, 33, 34, 35, 36, 37, 38, 39, 40, 41, 42, 43, 44, 45, 46, 47, 48, 49, 50, 51, 52, 53, 54, 55] (by decide +kernel) (by decide +kernel)
set_option maxRecDepth 20000 in
theorem gX9_kindHere_X9_isFour : GoodIn wsX9_kindHere (wsV RX9 108 RX9 yX9_isFour wsX9_isFour) := goodIn_app (goodIn_of _ (by decide +kernel)) ggX9_kindHere_X9_isFour
set_option maxRecDepth 20000 in
theorem ggX9_kindHere_X9_isFive : GoodIn wsX9_kindHere wsX9_isFive := goodIn_r _ [26, 8, 1, 2, 3, 4, 5, 6, 7, 9, 10, 11, 12, 13, 14, 27, 28, 29, 30, 31, 32, 33, 34, 35, 36, 37, 38, 39, 40, 41, 42, 43, 44, 45, 46, 47, 48, 49, 50, 51, 52, 53, 54, 55] (by decide +kernel) (by decide +kernel)
set_option maxRecDepth 20000 in
theorem gX9_kindHere_X9_isFive : GoodIn wsX9_kindHere (wsV RX9 111 RX9 yX9_isFive wsX9_isFive) := goodIn_app (goodIn_of _ (by decide +kernel)) ggX9_kindHere_X9_isFive
theorem dX9_kindHere_0 : decode cX9_kindHere 0 = .ok (.aload_n 0, 1) := by decide +kernel
theorem dX9_kindHere_1 : decode cX9_kindHere 1 = .ok (.bipush 7, 2) := by decide +kernel
theorem dX9_kindHere_3 : decode cX9_kindHere 3 = .ok (.bipush 99, 2) := by decide +kernel
theorem dX9_kindHere_5 : decode cX9_kindHere 5 = .ok (.bipush 105, 2) := by decide +kernel
theorem dX9_kindHere_7 : decode cX9_kindHere 7 = .ok (.bipush 116, 2) := by decide +kernel
theorem dX9_kindHere_9 : decode cX9_kindHere 9 = .ok (.bipush 110, 2) := by decide +kernel
theorem dX9_kindHere_11 : decode cX9_kindHere 11 = .ok (.invokevirtual 100, 3) := by decide +kernel
theorem dX9_kindHere_14 : decode cX9_kindHere 14 = .ok (.ifCond .eq 19, 3) := by decide +kernel
theorem dX9_kindHere_17 : decode cX9_kindHere 17 = .ok (.aload_n 0, 1) := by decide +kernel
theorem dX9_kindHere_18 : decode cX9_kindHere 18 = .ok (.iconst 3, 1) := by decide +kernel
theorem dX9_kindHere_19 : decode cX9_kindHere 19 = .ok (.bipush 105, 2) := by decide +kernel
theorem dX9_kindHere_21 : decode cX9_kindHere 21 = .ok (.bipush 122, 2) := by decide +kernel
theorem dX9_kindHere_23 : decode cX9_kindHere 23 = .ok (.bipush 101, 2) := by decide +kernel
theorem dX9_kindHere_25 : decode cX9_kindHere 25 = .ok (.invokevirtual 104, 3) := by decide +kernel
theorem dX9_kindHere_28 : decode cX9_kindHere 28 = .ok (.ifCond .eq 5, 3) := by decide +kernel
theorem dX9_kindHere_31 : decode cX9_kindHere 31 = .ok (.iconst 0, 1) := by decide +kernel
theorem dX9_kindHere_32 : decode cX9_kindHere 32 = .ok (.ireturn, 1) := by decide +kernel
theorem dX9_kindHere_33 : decode cX9_kindHere 33 = .ok (.aload_n 0, 1) := by decide +kernel
theorem dX9_kindHere_34 : decode cX9_kindHere 34 = .ok (.bipush 119, 2) := by decide +kernel
theorem dX9_kindHere_36 : decode cX9_kindHere 36 = .ok (.bipush 105, 2) := by decide +kernel
theorem dX9_kindHere_38 : decode cX9_kindHere 38 = .ok (.bipush 102, 2) := by decide +kernel
theorem dX9_kindHere_40 : decode cX9_kindHere 40 = .ok (.bipush 101, 2) := by decide +kernel
theorem dX9_kindHere_42 : decode cX9_kindHere 42 = .ok (.invokevirtual 108, 3) := by decide +kernel
theorem dX9_kindHere_45 : decode cX9_kindHere 45 = .ok (.ifCond .eq 5, 3) := by decide +kernel
theorem dX9_kindHere_48 : decode cX9_kindHere 48 = .ok (.iconst 1, 1) := by decide +kernel
theorem dX9_kindHere_49 : decode cX9_kindHere 49 = .ok (.ireturn, 1) := by decide +kernel
theorem dX9_kindHere_50 : decode cX9_kindHere 50 = .ok (.aload_n 0, 1) := by decide +kernel
theorem dX9_kindHere_51 : decode cX9_kindHere 51 = .ok (.bipush 109, 2) := by decide +kernel
theorem dX9_kindHere_53 : decode cX9_kindHere 53 = .ok (.bipush 111, 2) := by decide +kernel
theorem dX9_kindHere_55 : decode cX9_kindHere 55 = .ok (.bipush 110, 2) := by decide +kernel
theorem dX9_kindHere_57 : decode cX9_kindHere 57 = .ok (.bipush 107, 2) := by decide +kernel
theorem dX9_kindHere_59 : decode cX9_kindHere 59 = .ok (.invokevirtual 108, 3) := by decide +kernel
theorem dX9_kindHere_62 : decode cX9_kindHere 62 = .ok (.ifCond .eq 5, 3) := by decide +kernel
theorem dX9_kindHere_65 : decode cX9_kindHere 65 = .ok (.iconst 2, 1) := by decide +kernel
theorem dX9_kindHere_66 : decode cX9_kindHere 66 = .ok (.ireturn, 1) := by decide +kernel
theorem dX9_kindHere_67 : decode cX9_kindHere 67 = .ok (.aload_n 0, 1) := by decide +kernel
theorem dX9_kindHere_68 : decode cX9_kindHere 68 = .ok (.bipush 6, 2) := by decide +kernel
theorem dX9_kindHere_70 : decode cX9_kindHere 70 = .ok (.bipush 104, 2) := by decide +kernel
theorem dX9_kindHere_72 : decode cX9_kindHere 72 = .ok (.bipush 97, 2) := by decide +kernel
theorem dX9_kindHere_74 : decode cX9_kindHere 74 = .ok (.bipush 119, 2) := by decide +kernel
theorem dX9_kindHere_76 : decode cX9_kindHere 76 = .ok (.bipush 114, 2) := by decide +kernel
theorem dX9_kindHere_78 : decode cX9_kindHere 78 = .ok (.invokevirtual 100, 3) := by decide +kernel
theorem dX9_kindHere_81 : decode cX9_kindHere 81 = .ok (.ifCond .eq 19, 3) := by decide +kernel
theorem dX9_kindHere_84 : decode cX9_kindHere 84 = .ok (.aload_n 0, 1) := by decide +kernel
theorem dX9_kindHere_85 : decode cX9_kindHere 85 = .ok (.iconst 2, 1) := by decide +kernel
theorem dX9_kindHere_86 : decode cX9_kindHere 86 = .ok (.bipush 119, 2) := by decide +kernel
theorem dX9_kindHere_88 : decode cX9_kindHere 88 = .ok (.bipush 107, 2) := by decide +kernel
theorem dX9_kindHere_90 : decode cX9_kindHere 90 = .ok (.bipush 101, 2) := by decide +kernel
theorem dX9_kindHere_92 : decode cX9_kindHere 92 = .ok (.invokevirtual 104, 3) := by decide +kernel
theorem dX9_kindHere_95 : decode cX9_kindHere 95 = .ok (.ifCond .eq 5, 3) := by decide +kernel
theorem dX9_kindHere_98 : decode cX9_kindHere 98 = .ok (.iconst 3, 1) := by decide +kernel
theorem dX9_kindHere_99 : decode cX9_kindHere 99 = .ok (.ireturn, 1) := by decide +kernel
theorem dX9_kindHere_100 : decode cX9_kindHere 100 = .ok (.aload_n 0, 1) := by decide +kernel
theorem dX9_kindHere_101 : decode cX9_kindHere 101 = .ok (.bipush 112, 2) := by decide +kernel
theorem dX9_kindHere_103 : decode cX9_kindHere 103 = .ok (.bipush 114, 2) := by decide +kernel
theorem dX9_kindHere_105 : decode cX9_kindHere 105 = .ok (.bipush 105, 2) := by decide +kernel
theorem dX9_kindHere_107 : decode cX9_kindHere 107 = .ok (.bipush 111, 2) := by decide +kernel
theorem dX9_kindHere_109 : decode cX9_kindHere 109 = .ok (.bipush 114, 2) := by decide +kernel
theorem dX9_kindHere_111 : decode cX9_kindHere 111 = .ok (.invokevirtual 111, 3) := by decide +kernel
theorem dX9_kindHere_114 : decode cX9_kindHere 114 = .ok (.ifCond .eq 5, 3) := by decide +kernel
theorem dX9_kindHere_117 : decode cX9_kindHere 117 = .ok (.iconst 4, 1) := by decide +kernel
theorem dX9_kindHere_118 : decode cX9_kindHere 118 = .ok (.ireturn, 1) := by decide +kernel
theorem dX9_kindHere_119 : decode cX9_kindHere 119 = .ok (.aload_n 0, 1) := by decide +kernel
theorem dX9_kindHere_120 : decode cX9_kindHere 120 = .ok (.bipush 99, 2) := by decide +kernel
theorem dX9_kindHere_122 : decode cX9_kindHere 122 = .ok (.bipush 104, 2) := by decide +kernel
theorem dX9_kindHere_124 : decode cX9_kindHere 124 = .ok (.bipush 105, 2) := by decide +kernel
theorem dX9_kindHere_126 : decode cX9_kindHere 126 = .ok (.bipush 108, 2) := by decide +kernel
theorem dX9_kindHere_128 : decode cX9_kindHere 128 = .ok (.bipush 100, 2) := by decide +kernel
theorem dX9_kindHere_130 : decode cX9_kindHere 130 = .ok (.invokevirtual 111, 3) := by decide +kernel
theorem dX9_kindHere_133 : decode cX9_kindHere 133 = .ok (.ifCond .eq 7, 3) := by decide +kernel
theorem dX9_kindHere_136 : decode cX9_kindHere 136 = .ok (.iconst 5, 1) := by decide +kernel
theorem dX9_kindHere_137 : decode cX9_kindHere 137 = .ok (.goto 4, 3) := by decide +kernel
theorem dX9_kindHere_140 : decode cX9_kindHere 140 = .ok (.iconst (-1), 1) := by decide +kernel
theorem dX9_kindHere_141 : decode cX9_kindHere 141 = .ok (.ireturn, 1) := by decide +kernel
set_option maxRecDepth 20000 in
theorem ggX9_numberTo_X9_needs : GoodIn wsX9_numberTo wsX9_needs := goodIn_r _ [11, 5, 12, 13, 14, 10, 15, 2, 3, 1, 4, 16, 17, 18, 19, 20, 21, 22, 23, 24, 25, 26, 27, 28, 29, 30, 31, 32, 33, 34, 35, 36, 37, 38, 39, 40, 41, 42, 43, 44, 45, 46, 47, 48, 49, 50, 51, 52, 53, 54, 55, 56] (by decide +kernel) (by decide +kernel)
set_option maxRecDepth 20000 in
theorem gX9_numberTo_X9_needs : GoodIn wsX9_numberTo (wsV RX9 114 RX9 yX9_needs wsX9_needs) := goodIn_app (goodIn_of _ (by decide +kernel)) ggX9_numberTo_X9_needs
theorem dX9_numberTo_0 : decode cX9_numberTo 0 = .ok (.aload_n 0, 1) := by decide +kernel
theorem dX9_numberTo_1 : decode cX9_numberTo 1 = .ok (.getfield 87, 3) := by decide +kernel
theorem dX9_numberTo_4 : decode cX9_numberTo 4 = .ok (.iconst 2, 1) := by decide +kernel
theorem dX9_numberTo_5 : decode cX9_numberTo 5 = .ok (.if_icmp .ne 28, 3) := by decide +kernel
theorem dX9_numberTo_8 : decode cX9_numberTo 8 = .ok (.aload_n 0, 1) := by decide +kernel
theorem dX9_numberTo_9 : decode cX9_numberTo 9 = .ok (.getfield 70, 3) := by decide +kernel
theorem dX9_numberTo_12 : decode cX9_numberTo 12 = .ok (.aload_n 0, 1) := by decide +kernel
theorem dX9_numberTo_13 : decode cX9_numberTo 13 = .ok (.getfield 73, 3) := by decide +kernel
theorem dX9_numberTo_16 : decode cX9_numberTo 16 = .ok (.isub, 1) := by decide +kernel
theorem dX9_numberTo_17 : decode cX9_numberTo 17 = .ok (.iconst 3, 1) := by decide +kernel
theorem dX9_numberTo_18 : decode cX9_numberTo 18 = .ok (.if_icmp .gt 15, 3) := by decide +kernel
theorem dX9_numberTo_21 : decode cX9_numberTo 21 = .ok (.aload_n 0, 1) := by decide +kernel
theorem dX9_numberTo_22 : decode cX9_numberTo 22 = .ok (.getfield 90, 3) := by decide +kernel
theorem dX9_numberTo_25 : decode cX9_numberTo 25 = .ok (.iload_n 2, 1) := by decide +kernel
theorem dX9_numberTo_26 : decode cX9_numberTo 26 = .ok (.if_icmp .gt 7, 3) := by decide +kernel
theorem dX9_numberTo_29 : decode cX9_numberTo 29 = .ok (.iconst 1, 1) := by decide +kernel
theorem dX9_numberTo_30 : decode cX9_numberTo 30 = .ok (.goto 4, 3) := by decide +kernel
theorem dX9_numberTo_33 : decode cX9_numberTo 33 = .ok (.iconst 0, 1) := by decide +kernel
theorem dX9_numberTo_34 : decode cX9_numberTo 34 = .ok (.istore_n 3, 1) := by decide +kernel
theorem dX9_numberTo_35 : decode cX9_numberTo 35 = .ok (.iload_n 3, 1) := by decide +kernel
theorem dX9_numberTo_36 : decode cX9_numberTo 36 = .ok (.ifCond .eq 20, 3) := by decide +kernel
theorem dX9_numberTo_39 : decode cX9_numberTo 39 = .ok (.aload_n 0, 1) := by decide +kernel
theorem dX9_numberTo_40 : decode cX9_numberTo 40 = .ok (.getfield 93, 3) := by decide +kernel
theorem dX9_numberTo_43 : decode cX9_numberTo 43 = .ok (.ifCond .ne 13, 3) := by decide +kernel
theorem dX9_numberTo_46 : decode cX9_numberTo 46 = .ok (.aload_n 0, 1) := by decide +kernel
theorem dX9_numberTo_47 : decode cX9_numberTo 47 = .ok (.getfield 7, 3) := by decide +kernel
theorem dX9_numberTo_50 : decode cX9_numberTo 50 = .ok (.iload_n 1, 1) := by decide +kernel
theorem dX9_numberTo_51 : decode cX9_numberTo 51 = .ok (.aload_n 0, 1) := by decide +kernel
theorem dX9_numberTo_52 : decode cX9_numberTo 52 = .ok (.getfield 90, 3) := by decide +kernel
theorem dX9_numberTo_55 : decode cX9_numberTo 55 = .ok (.iastore, 1) := by decide +kernel
theorem dX9_numberTo_56 : decode cX9_numberTo 56 = .ok (.aload_n 0, 1) := by decide +kernel
theorem dX9_numberTo_57 : decode cX9_numberTo 57 = .ok (.iload_n 3, 1) := by decide +kernel
theorem dX9_numberTo_58 : decode cX9_numberTo 58 = .ok (.invokevirtual 114, 3) := by decide +kernel
theorem dX9_numberTo_61 : decode cX9_numberTo 61 = .ok (.return_, 1) := by decide +kernel
set_option maxRecDepth 20000 in
theorem ggX9_perhaps_X9_nextToken : GoodIn wsX9_perhaps wsX9_nextToken := goodIn_r _ [6, 7, 8, 9, 10, 11, 12, 13, 5, 14, 15, 16, 17, 18, 19, 20, 21, 22, 32, 33, 34, 35, 36, 37, 38, 39, 40, 41, 42, 43, 44, 45, 46, 47, 48, 49, 50, 51, 52, 53, 54, 55, 56, 57, 58, 59, 60] (by decide +kernel) (by decide +kernel)
set_option maxRecDepth 20000 in
theorem gX9_perhaps_X9_nextToken : GoodIn wsX9_perhaps (wsV RX9 97 RX9 yX9_nextToken wsX9_nextToken) := goodIn_app (goodIn_of _ (by decide +kernel)) ggX9_perhaps_X9_nextToken
set_option maxRecDepth 20000 in
theorem ggX9_perhaps_X9_numberTo : GoodIn wsX9_perhaps wsX9_numberTo := goodIn_r _ [26, 9, 7, 8, 10, 1, 27, 28, 29, 30, 5, 31, 2, 3, 4, 6, 11, 12, 13, 14, 15, 16, 17, 18, 19, 20, 21, 22, 32, 33, 34, 35, 36, 37, 38, 39, 40, 41, 42, 43, 44, 45, 46, 47, 48, 49, 50, 51, 52, 53, 54, 55, 56, 57, 58, 59, 60] (by decide +kernel) (by decide +kernel)
set_option maxRecDepth 20000 in
theorem gX9_perhaps_X9_numberTo : GoodIn wsX9_perhaps (wsV RX9 118 RX9 yX9_numberTo wsX9_numberTo) := goodIn_app (goodIn_of _ (by decide +kernel)) ggX9_perhaps_X9_numberTo
theorem dX9_perhaps_0 : decode cX9_perhaps 0 = .ok (.aload_n 0, 1) := by decide +kernel
theorem dX9_perhaps_1 : decode cX9_perhaps 1 = .ok (.getfield 93, 3) := by decide +kernel
theorem dX9_perhaps_4 : decode cX9_perhaps 4 = .ok (.ifCond .ne 17, 3) := by decide +kernel
theorem dX9_perhaps_7 : decode cX9_perhaps 7 = .ok (.iload_n 1, 1) := by decide +kernel
theorem dX9_perhaps_8 : decode cX9_perhaps 8 = .ok (.ifCond .eq 13, 3) := by decide +kernel
theorem dX9_perhaps_11 : decode cX9_perhaps 11 = .ok (.aload_n 0, 1) := by decide +kernel
theorem dX9_perhaps_12 : decode cX9_perhaps 12 = .ok (.invokevirtual 97, 3) := by decide +kernel
theorem dX9_perhaps_15 : decode cX9_perhaps 15 = .ok (.aload_n 0, 1) := by decide +kernel
theorem dX9_perhaps_16 : decode cX9_perhaps 16 = .ok (.iload_n 2, 1) := by decide +kernel
theorem dX9_perhaps_17 : decode cX9_perhaps 17 = .ok (.iload_n 3, 1) := by decide +kernel
theorem dX9_perhaps_18 : decode cX9_perhaps 18 = .ok (.invokevirtual 118, 3) := by decide +kernel
theorem dX9_perhaps_21 : decode cX9_perhaps 21 = .ok (.return_, 1) := by decide +kernel
set_option maxRecDepth 20000 in
theorem ggX9_personHere_X9_needs : GoodIn wsX9_personHere wsX9_needs := goodIn_r _ [7, 2, 8, 9, 10, 6, 11, 12, 13, 14, 15, 16, 17, 18, 19, 20, 21, 22, 23, 24, 25, 26, 27, 52, 53, 54, 55, 56, 57, 58, 59, 60, 61, 62, 63, 64, 65, 66, 67, 68, 69, 70, 71, 72, 73, 74, 75, 76, 77, 78, 79, 80] (by decide +kernel) (by decide +kernel)
set_option maxRecDepth 20000 in
theorem gX9_personHere_X9_needs : GoodIn wsX9_personHere (wsV RX9 114 RX9 yX9_needs wsX9_needs) := goodIn_app (goodIn_of _ (by decide +kernel)) ggX9_personHere_X9_needs
set_option maxRecDepth 20000 in
theorem ggX9_personHere_X9_comes : GoodIn wsX9_personHere wsX9_comes := goodIn_r _ [31, 1, 52, 53, 54, 55, 56, 57, 58, 59, 60, 61, 62, 63, 64, 65, 66, 67, 68, 69, 70, 71, 72, 73, 74, 75, 76, 77, 78, 79, 80] (by decide +kernel) (by decide +kernel)
set_option maxRecDepth 20000 in
theorem gX9_personHere_X9_comes : GoodIn wsX9_personHere (wsV RX9 122 RX9 yX9_comes wsX9_comes) := goodIn_app (goodIn_of _ (by decide +kernel)) ggX9_personHere_X9_comes
set_option maxRecDepth 20000 in
theorem ggX9_personHere_X9_isFour : GoodIn wsX9_personHere wsX9_isFour := goodIn_r _ [35, 36, 37, 38, 6, 39, 14, 12, 13, 16, 17, 18, 19, 20, 21, 52, 53, 54, 55, 56, 57, 58, 59, 60, 61, 62, 63, 64, 65, 66, 67, 68, 69, 70, 71, 72, 73, 74, 75, 76, 77, 78, 79, 80] (by decide +kernel) (by decide +kernel)
set_option maxRecDepth 20000 in
theorem gX9_personHere_X9_isFour : GoodIn wsX9_personHere (wsV RX9 108 RX9 yX9_isFour wsX9_isFour) := goodIn_app (goodIn_of _ (by decide +kernel)) ggX9_personHere_X9_isFour
set_option maxRecDepth 20000 in
theorem ggX9_personHere_X9_perhaps : GoodIn wsX9_personHere wsX9_perhaps := goodIn_r _ [43, 2, 8, 9, 10, 6, 11, 12, 13, 14, 15, 16, 17, 18, 19, 20, 21, 22, 23, 24, 25, 26, 27, 44, 45, 46, 47, 1, 3, 4, 5, 7, 52, 53, 54, 55, 56, 57, 58, 59, 60, 61, 62, 63, 64, 65, 66, 67, 68, 69, 70, 71, 72, 73, 74, 75, 76, 77, 78, 79, 80] (by decide +kernel) (by decide +kernel)
set_option maxRecDepth 20000 in
theorem gX9_personHere_X9_perhaps : GoodIn wsX9_personHere (wsV RX9 126 RX9 yX9_perhaps wsX9_perhaps) := goodIn_app (goodIn_of _ (by decide +kernel)) ggX9_personHere_X9_perhaps
set_option maxRecDepth 20000 in
theorem ggX9_personHere_X9_isFive : GoodIn wsX9_personHere wsX9_isFive := goodIn_r _ [51, 13, 36, 37, 38, 6, 39, 14, 12, 16, 17, 18, 19, 20, 21, 52, 53, 54, 55, 56, 57, 58, 59, 60, 61, 62, 63, 64, 65, 66, 67, 68, 69, 70, 71, 72, 73, 74, 75, 76, 77, 78, 79, 80] (by decide +kernel) (by decide +kernel)
set_option maxRecDepth 20000 in
theorem gX9_personHere_X9_isFive : GoodIn wsX9_personHere (wsV RX9 111 RX9 yX9_isFive wsX9_isFive) := goodIn_app (goodIn_of _ (by decide +kernel)) ggX9_personHere_X9_isFive
theorem dX9_personHere_0 : decode cX9_personHere 0 = .ok (.bipush 9, 2) := by decide +kernel
theorem dX9_personHere_2 : decode cX9_personHere 2 = .ok (.bipush 6, 2) := by decide +kernel
theorem dX9_personHere_4 : decode cX9_personHere 4 = .ok (.aload_n 0, 1) := by decide +kernel
theorem dX9_personHere_5 : decode cX9_personHere 5 = .ok (.getfield 7, 3) := by decide +kernel
theorem dX9_personHere_8 : decode cX9_personHere 8 = .ok (.iconst 0, 1) := by decide +kernel
theorem dX9_personHere_9 : decode cX9_personHere 9 = .ok (.iaload, 1) := by decide +kernel
theorem dX9_personHere_10 : decode cX9_personHere 10 = .ok (.imul, 1) := by decide +kernel
theorem dX9_personHere_11 : decode cX9_personHere 11 = .ok (.iadd, 1) := by decide +kernel
theorem dX9_personHere_12 : decode cX9_personHere 12 = .ok (.istore_n 2, 1) := by decide +kernel
theorem dX9_personHere_13 : decode cX9_personHere 13 = .ok (.aload_n 0, 1) := by decide +kernel
theorem dX9_personHere_14 : decode cX9_personHere 14 = .ok (.aload_n 0, 1) := by decide +kernel
theorem dX9_personHere_15 : decode cX9_personHere 15 = .ok (.getfield 7, 3) := by decide +kernel
theorem dX9_personHere_18 : decode cX9_personHere 18 = .ok (.iconst 0, 1) := by decide +kernel
theorem dX9_personHere_19 : decode cX9_personHere 19 = .ok (.iaload, 1) := by decide +kernel
theorem dX9_personHere_20 : decode cX9_personHere 20 = .ok (.bipush 8, 2) := by decide +kernel
theorem dX9_personHere_22 : decode cX9_personHere 22 = .ok (.if_icmp .ge 7, 3) := by decide +kernel
theorem dX9_personHere_25 : decode cX9_personHere 25 = .ok (.iconst 1, 1) := by decide +kernel
theorem dX9_personHere_26 : decode cX9_personHere 26 = .ok (.goto 4, 3) := by decide +kernel
theorem dX9_personHere_29 : decode cX9_personHere 29 = .ok (.iconst 0, 1) := by decide +kernel
theorem dX9_personHere_30 : decode cX9_personHere 30 = .ok (.invokevirtual 114, 3) := by decide +kernel
theorem dX9_personHere_33 : decode cX9_personHere 33 = .ok (.aload_n 0, 1) := by decide +kernel
theorem dX9_personHere_34 : decode cX9_personHere 34 = .ok (.getfield 93, 3) := by decide +kernel
theorem dX9_personHere_37 : decode cX9_personHere 37 = .ok (.ifCond .ne 11, 3) := by decide +kernel
theorem dX9_personHere_40 : decode cX9_personHere 40 = .ok (.aload_n 0, 1) := by decide +kernel
theorem dX9_personHere_41 : decode cX9_personHere 41 = .ok (.iload_n 1, 1) := by decide +kernel
theorem dX9_personHere_42 : decode cX9_personHere 42 = .ok (.iconst 0, 1) := by decide +kernel
theorem dX9_personHere_43 : decode cX9_personHere 43 = .ok (.iconst 0, 1) := by decide +kernel
theorem dX9_personHere_44 : decode cX9_personHere 44 = .ok (.iconst 3, 1) := by decide +kernel
theorem dX9_personHere_45 : decode cX9_personHere 45 = .ok (.invokevirtual 122, 3) := by decide +kernel
theorem dX9_personHere_48 : decode cX9_personHere 48 = .ok (.aload_n 0, 1) := by decide +kernel
theorem dX9_personHere_49 : decode cX9_personHere 49 = .ok (.aload_n 0, 1) := by decide +kernel
theorem dX9_personHere_50 : decode cX9_personHere 50 = .ok (.bipush 110, 2) := by decide +kernel
theorem dX9_personHere_52 : decode cX9_personHere 52 = .ok (.bipush 101, 2) := by decide +kernel
theorem dX9_personHere_54 : decode cX9_personHere 54 = .ok (.bipush 101, 2) := by decide +kernel
theorem dX9_personHere_56 : decode cX9_personHere 56 = .ok (.bipush 100, 2) := by decide +kernel
theorem dX9_personHere_58 : decode cX9_personHere 58 = .ok (.invokevirtual 108, 3) := by decide +kernel
theorem dX9_personHere_61 : decode cX9_personHere 61 = .ok (.iload_n 2, 1) := by decide +kernel
theorem dX9_personHere_62 : decode cX9_personHere 62 = .ok (.iconst 1, 1) := by decide +kernel
theorem dX9_personHere_63 : decode cX9_personHere 63 = .ok (.iadd, 1) := by decide +kernel
theorem dX9_personHere_64 : decode cX9_personHere 64 = .ok (.bipush 99, 2) := by decide +kernel
theorem dX9_personHere_66 : decode cX9_personHere 66 = .ok (.invokevirtual 126, 3) := by decide +kernel
theorem dX9_personHere_69 : decode cX9_personHere 69 = .ok (.aload_n 0, 1) := by decide +kernel
theorem dX9_personHere_70 : decode cX9_personHere 70 = .ok (.aload_n 0, 1) := by decide +kernel
theorem dX9_personHere_71 : decode cX9_personHere 71 = .ok (.bipush 115, 2) := by decide +kernel
theorem dX9_personHere_73 : decode cX9_personHere 73 = .ok (.bipush 97, 2) := by decide +kernel
theorem dX9_personHere_75 : decode cX9_personHere 75 = .ok (.bipush 118, 2) := by decide +kernel
theorem dX9_personHere_77 : decode cX9_personHere 77 = .ok (.bipush 101, 2) := by decide +kernel
theorem dX9_personHere_79 : decode cX9_personHere 79 = .ok (.bipush 100, 2) := by decide +kernel
theorem dX9_personHere_81 : decode cX9_personHere 81 = .ok (.invokevirtual 111, 3) := by decide +kernel
theorem dX9_personHere_84 : decode cX9_personHere 84 = .ok (.iload_n 2, 1) := by decide +kernel
theorem dX9_personHere_85 : decode cX9_personHere 85 = .ok (.iconst 2, 1) := by decide +kernel
theorem dX9_personHere_86 : decode cX9_personHere 86 = .ok (.iadd, 1) := by decide +kernel
theorem dX9_personHere_87 : decode cX9_personHere 87 = .ok (.bipush 99, 2) := by decide +kernel
theorem dX9_personHere_89 : decode cX9_personHere 89 = .ok (.invokevirtual 126, 3) := by decide +kernel
theorem dX9_personHere_92 : decode cX9_personHere 92 = .ok (.aload_n 0, 1) := by decide +kernel
theorem dX9_personHere_93 : decode cX9_personHere 93 = .ok (.aload_n 0, 1) := by decide +kernel
theorem dX9_personHere_94 : decode cX9_personHere 94 = .ok (.bipush 118, 2) := by decide +kernel
theorem dX9_personHere_96 : decode cX9_personHere 96 = .ok (.bipush 111, 2) := by decide +kernel
theorem dX9_personHere_98 : decode cX9_personHere 98 = .ok (.bipush 105, 2) := by decide +kernel
theorem dX9_personHere_100 : decode cX9_personHere 100 = .ok (.bipush 99, 2) := by decide +kernel
theorem dX9_personHere_102 : decode cX9_personHere 102 = .ok (.bipush 101, 2) := by decide +kernel
theorem dX9_personHere_104 : decode cX9_personHere 104 = .ok (.invokevirtual 111, 3) := by decide +kernel
theorem dX9_personHere_107 : decode cX9_personHere 107 = .ok (.iload_n 2, 1) := by decide +kernel
theorem dX9_personHere_108 : decode cX9_personHere 108 = .ok (.iconst 3, 1) := by decide +kernel
theorem dX9_personHere_109 : decode cX9_personHere 109 = .ok (.iadd, 1) := by decide +kernel
theorem dX9_personHere_110 : decode cX9_personHere 110 = .ok (.bipush 9, 2) := by decide +kernel
theorem dX9_personHere_112 : decode cX9_personHere 112 = .ok (.invokevirtual 126, 3) := by decide +kernel
theorem dX9_personHere_115 : decode cX9_personHere 115 = .ok (.return_, 1) := by decide +kernel
set_option maxRecDepth 20000 in
theorem ggX9_pairHere_X9_nextToken : GoodIn wsX9_pairHere wsX9_nextToken := goodIn_r _ [10, 3, 4, 2, 1, 11, 12, 13, 9, 14, 15, 16, 17, 18, 19, 20, 21, 22, 52, 53, 54, 55, 56, 57, 58, 59, 60, 61, 62, 63, 64, 65, 66, 67, 68, 69, 70, 71, 72, 73, 74, 75, 76, 77, 78, 79, 80] (by decide +kernel) (by decide +kernel)
set_option maxRecDepth 20000 in
theorem gX9_pairHere_X9_nextToken : GoodIn wsX9_pairHere (wsV RX9 97 RX9 yX9_nextToken wsX9_nextToken) := goodIn_app (goodIn_of _ (by decide +kernel)) ggX9_pairHere_X9_nextToken
set_option maxRecDepth 20000 in
theorem ggX9_pairHere_X9_isOne : GoodIn wsX9_pairHere wsX9_isOne := goodIn_r _ [26, 27, 52, 53, 54, 55, 56, 57, 58, 59, 60, 61, 62, 63, 64, 65, 66, 67, 68, 69, 70, 71, 72, 73, 74, 75, 76, 77, 78, 79, 80] (by decide +kernel) (by decide +kernel)
set_option maxRecDepth 20000 in
theorem gX9_pairHere_X9_isOne : GoodIn wsX9_pairHere (wsV RX9 130 RX9 yX9_isOne wsX9_isOne) := goodIn_app (goodIn_of _ (by decide +kernel)) ggX9_pairHere_X9_isOne
set_option maxRecDepth 20000 in
theorem ggX9_pairHere_X9_needs : GoodIn wsX9_pairHere wsX9_needs := goodIn_r _ [31, 5, 6, 7, 8, 9, 10, 3, 4, 2, 1, 11, 12, 13, 14, 15, 16, 17, 18, 19, 20, 21, 22, 52, 53, 54, 55, 56, 57, 58, 59, 60, 61, 62, 63, 64, 65, 66, 67, 68, 69, 70, 71, 72, 73, 74, 75, 76, 77, 78, 79, 80] (by decide +kernel) (by decide +kernel)
set_option maxRecDepth 20000 in
theorem gX9_pairHere_X9_needs : GoodIn wsX9_pairHere (wsV RX9 114 RX9 yX9_needs wsX9_needs) := goodIn_app (goodIn_of _ (by decide +kernel)) ggX9_pairHere_X9_needs
set_option maxRecDepth 20000 in
theorem ggX9_pairHere_X9_isFour : GoodIn wsX9_pairHere wsX9_isFour := goodIn_r _ [35, 36, 37, 38, 9, 39, 2, 3, 4, 11, 12, 13, 14, 15, 16, 52, 53, 54, 55, 56, 57, 58, 59, 60, 61, 62, 63, 64, 65, 66, 67, 68, 69, 70, 71, 72, 73, 74, 75, 76, 77, 78, 79, 80] (by decide +kernel) (by decide +kernel)
set_option maxRecDepth 20000 in
theorem gX9_pairHere_X9_isFour : GoodIn wsX9_pairHere (wsV RX9 108 RX9 yX9_isFour wsX9_isFour) := goodIn_app (goodIn_of _ (by decide +kernel)) ggX9_pairHere_X9_isFour
set_option maxRecDepth 20000 in
theorem ggX9_pairHere_X9_pairs : GoodIn wsX9_pairHere wsX9_pairs := goodIn_r _ [43, 27, 44, 45, 46, 9, 47, 48, 49, 50, 51, 52, 53, 54, 55, 56, 57, 58, 59, 60, 61, 62, 63, 64, 65, 66, 67, 68, 69, 70, 71, 72, 73, 74, 75, 76, 77, 78, 79, 80] (by decide +kernel) (by decide +kernel)
set_option maxRecDepth 20000 in
theorem gX9_pairHere_X9_pairs : GoodIn wsX9_pairHere (wsV RX9 133 RX9 yX9_pairs wsX9_pairs) := goodIn_app (goodIn_of _ (by decide +kernel)) ggX9_pairHere_X9_pairs
theorem dX9_pairHere_0 : decode cX9_pairHere 0 = .ok (.aload_n 0, 1) := by decide +kernel
theorem dX9_pairHere_1 : decode cX9_pairHere 1 = .ok (.invokevirtual 97, 3) := by decide +kernel
theorem dX9_pairHere_4 : decode cX9_pairHere 4 = .ok (.aload_n 0, 1) := by decide +kernel
theorem dX9_pairHere_5 : decode cX9_pairHere 5 = .ok (.getfield 90, 3) := by decide +kernel
theorem dX9_pairHere_8 : decode cX9_pairHere 8 = .ok (.istore_n 1, 1) := by decide +kernel
theorem dX9_pairHere_9 : decode cX9_pairHere 9 = .ok (.aload_n 0, 1) := by decide +kernel
theorem dX9_pairHere_10 : decode cX9_pairHere 10 = .ok (.aload_n 0, 1) := by decide +kernel
theorem dX9_pairHere_11 : decode cX9_pairHere 11 = .ok (.getfield 87, 3) := by decide +kernel
theorem dX9_pairHere_14 : decode cX9_pairHere 14 = .ok (.iconst 2, 1) := by decide +kernel
theorem dX9_pairHere_15 : decode cX9_pairHere 15 = .ok (.if_icmp .ne 31, 3) := by decide +kernel
theorem dX9_pairHere_18 : decode cX9_pairHere 18 = .ok (.aload_n 0, 1) := by decide +kernel
theorem dX9_pairHere_19 : decode cX9_pairHere 19 = .ok (.getfield 70, 3) := by decide +kernel
theorem dX9_pairHere_22 : decode cX9_pairHere 22 = .ok (.aload_n 0, 1) := by decide +kernel
theorem dX9_pairHere_23 : decode cX9_pairHere 23 = .ok (.getfield 73, 3) := by decide +kernel
theorem dX9_pairHere_26 : decode cX9_pairHere 26 = .ok (.isub, 1) := by decide +kernel
theorem dX9_pairHere_27 : decode cX9_pairHere 27 = .ok (.iconst 3, 1) := by decide +kernel
theorem dX9_pairHere_28 : decode cX9_pairHere 28 = .ok (.if_icmp .gt 18, 3) := by decide +kernel
theorem dX9_pairHere_31 : decode cX9_pairHere 31 = .ok (.aload_n 0, 1) := by decide +kernel
theorem dX9_pairHere_32 : decode cX9_pairHere 32 = .ok (.aload_n 0, 1) := by decide +kernel
theorem dX9_pairHere_33 : decode cX9_pairHere 33 = .ok (.getfield 90, 3) := by decide +kernel
theorem dX9_pairHere_36 : decode cX9_pairHere 36 = .ok (.invokevirtual 130, 3) := by decide +kernel
theorem dX9_pairHere_39 : decode cX9_pairHere 39 = .ok (.ifCond .eq 7, 3) := by decide +kernel
theorem dX9_pairHere_42 : decode cX9_pairHere 42 = .ok (.iconst 1, 1) := by decide +kernel
theorem dX9_pairHere_43 : decode cX9_pairHere 43 = .ok (.goto 4, 3) := by decide +kernel
theorem dX9_pairHere_46 : decode cX9_pairHere 46 = .ok (.iconst 0, 1) := by decide +kernel
theorem dX9_pairHere_47 : decode cX9_pairHere 47 = .ok (.invokevirtual 114, 3) := by decide +kernel
theorem dX9_pairHere_50 : decode cX9_pairHere 50 = .ok (.aload_n 0, 1) := by decide +kernel
theorem dX9_pairHere_51 : decode cX9_pairHere 51 = .ok (.aload_n 0, 1) := by decide +kernel
theorem dX9_pairHere_52 : decode cX9_pairHere 52 = .ok (.bipush 119, 2) := by decide +kernel
theorem dX9_pairHere_54 : decode cX9_pairHere 54 = .ok (.bipush 105, 2) := by decide +kernel
theorem dX9_pairHere_56 : decode cX9_pairHere 56 = .ok (.bipush 116, 2) := by decide +kernel
theorem dX9_pairHere_58 : decode cX9_pairHere 58 = .ok (.bipush 104, 2) := by decide +kernel
theorem dX9_pairHere_60 : decode cX9_pairHere 60 = .ok (.invokevirtual 108, 3) := by decide +kernel
theorem dX9_pairHere_63 : decode cX9_pairHere 63 = .ok (.invokevirtual 114, 3) := by decide +kernel
theorem dX9_pairHere_66 : decode cX9_pairHere 66 = .ok (.aload_n 0, 1) := by decide +kernel
theorem dX9_pairHere_67 : decode cX9_pairHere 67 = .ok (.getfield 90, 3) := by decide +kernel
theorem dX9_pairHere_70 : decode cX9_pairHere 70 = .ok (.istore_n 2, 1) := by decide +kernel
theorem dX9_pairHere_71 : decode cX9_pairHere 71 = .ok (.aload_n 0, 1) := by decide +kernel
theorem dX9_pairHere_72 : decode cX9_pairHere 72 = .ok (.aload_n 0, 1) := by decide +kernel
theorem dX9_pairHere_73 : decode cX9_pairHere 73 = .ok (.getfield 87, 3) := by decide +kernel
theorem dX9_pairHere_76 : decode cX9_pairHere 76 = .ok (.iconst 2, 1) := by decide +kernel
theorem dX9_pairHere_77 : decode cX9_pairHere 77 = .ok (.if_icmp .ne 39, 3) := by decide +kernel
theorem dX9_pairHere_80 : decode cX9_pairHere 80 = .ok (.aload_n 0, 1) := by decide +kernel
theorem dX9_pairHere_81 : decode cX9_pairHere 81 = .ok (.getfield 70, 3) := by decide +kernel
theorem dX9_pairHere_84 : decode cX9_pairHere 84 = .ok (.aload_n 0, 1) := by decide +kernel
theorem dX9_pairHere_85 : decode cX9_pairHere 85 = .ok (.getfield 73, 3) := by decide +kernel
theorem dX9_pairHere_88 : decode cX9_pairHere 88 = .ok (.isub, 1) := by decide +kernel
theorem dX9_pairHere_89 : decode cX9_pairHere 89 = .ok (.iconst 3, 1) := by decide +kernel
theorem dX9_pairHere_90 : decode cX9_pairHere 90 = .ok (.if_icmp .gt 26, 3) := by decide +kernel
theorem dX9_pairHere_93 : decode cX9_pairHere 93 = .ok (.aload_n 0, 1) := by decide +kernel
theorem dX9_pairHere_94 : decode cX9_pairHere 94 = .ok (.aload_n 0, 1) := by decide +kernel
theorem dX9_pairHere_95 : decode cX9_pairHere 95 = .ok (.getfield 90, 3) := by decide +kernel
theorem dX9_pairHere_98 : decode cX9_pairHere 98 = .ok (.invokevirtual 130, 3) := by decide +kernel
theorem dX9_pairHere_101 : decode cX9_pairHere 101 = .ok (.ifCond .eq 15, 3) := by decide +kernel
theorem dX9_pairHere_104 : decode cX9_pairHere 104 = .ok (.aload_n 0, 1) := by decide +kernel
theorem dX9_pairHere_105 : decode cX9_pairHere 105 = .ok (.getfield 90, 3) := by decide +kernel
theorem dX9_pairHere_108 : decode cX9_pairHere 108 = .ok (.iload_n 1, 1) := by decide +kernel
theorem dX9_pairHere_109 : decode cX9_pairHere 109 = .ok (.if_icmp .eq 7, 3) := by decide +kernel
theorem dX9_pairHere_112 : decode cX9_pairHere 112 = .ok (.iconst 1, 1) := by decide +kernel
theorem dX9_pairHere_113 : decode cX9_pairHere 113 = .ok (.goto 4, 3) := by decide +kernel
theorem dX9_pairHere_116 : decode cX9_pairHere 116 = .ok (.iconst 0, 1) := by decide +kernel
theorem dX9_pairHere_117 : decode cX9_pairHere 117 = .ok (.invokevirtual 114, 3) := by decide +kernel
theorem dX9_pairHere_120 : decode cX9_pairHere 120 = .ok (.aload_n 0, 1) := by decide +kernel
theorem dX9_pairHere_121 : decode cX9_pairHere 121 = .ok (.getfield 93, 3) := by decide +kernel
theorem dX9_pairHere_124 : decode cX9_pairHere 124 = .ok (.ifCond .ne 9, 3) := by decide +kernel
theorem dX9_pairHere_127 : decode cX9_pairHere 127 = .ok (.aload_n 0, 1) := by decide +kernel
theorem dX9_pairHere_128 : decode cX9_pairHere 128 = .ok (.iload_n 1, 1) := by decide +kernel
theorem dX9_pairHere_129 : decode cX9_pairHere 129 = .ok (.iload_n 2, 1) := by decide +kernel
theorem dX9_pairHere_130 : decode cX9_pairHere 130 = .ok (.invokevirtual 133, 3) := by decide +kernel
theorem dX9_pairHere_133 : decode cX9_pairHere 133 = .ok (.return_, 1) := by decide +kernel
set_option maxRecDepth 20000 in
theorem ggX9_lawHere_X9_isFour : GoodIn wsX9_lawHere wsX9_isFour := goodIn_r _ [5, 6, 7, 8, 4, 9, 10, 11, 12, 13, 14, 15, 16, 17, 18, 27, 28, 29, 30, 31, 32, 33, 34, 35, 36, 37, 38, 39, 40, 41, 42, 43, 44, 45, 46, 47, 48, 49, 50, 51, 52, 53, 54, 55] (by decide +kernel) (by decide +kernel)
set_option maxRecDepth 20000 in
theorem gX9_lawHere_X9_isFour : GoodIn wsX9_lawHere (wsV RX9 108 RX9 yX9_isFour wsX9_isFour) := goodIn_app (goodIn_of _ (by decide +kernel)) ggX9_lawHere_X9_isFour
set_option maxRecDepth 20000 in
theorem ggX9_lawHere_X9_isFive : GoodIn wsX9_lawHere wsX9_isFive := goodIn_r _ [22, 12, 6, 7, 8, 4, 9, 10, 11, 13, 14, 15, 16, 17, 18, 27, 28, 29, 30, 31, 32, 33, 34, 35, 36, 37, 38, 39, 40, 41, 42, 43, 44, 45, 46, 47, 48, 49, 50, 51, 52, 53, 54, 55] (by decide +kernel) (by decide +kernel)
set_option maxRecDepth 20000 in
theorem gX9_lawHere_X9_isFive : GoodIn wsX9_lawHere (wsV RX9 111 RX9 yX9_isFive wsX9_isFive) := goodIn_app (goodIn_of _ (by decide +kernel)) ggX9_lawHere_X9_isFive
set_option maxRecDepth 20000 in
theorem ggX9_lawHere_X9_isName : GoodIn wsX9_lawHere wsX9_isName := goodIn_r _ [9, 10, 11, 12, 13, 14, 15, 4, 16, 17, 18, 27, 28, 29, 30, 31, 32, 33, 34, 35, 36, 37, 38, 39, 40, 41, 42, 43, 44, 45, 46, 47, 48, 49, 50, 51, 52, 53, 54, 55] (by decide +kernel) (by decide +kernel)
set_option maxRecDepth 20000 in
theorem gX9_lawHere_X9_isName : GoodIn wsX9_lawHere (wsV RX9 100 RX9 yX9_isName wsX9_isName) := goodIn_app (goodIn_of _ (by decide +kernel)) ggX9_lawHere_X9_isName
set_option maxRecDepth 20000 in
theorem ggX9_lawHere_X9_isSame : GoodIn wsX9_lawHere wsX9_isSame := goodIn_r _ [26, 12, 13, 14, 15, 4, 16, 17, 18, 27, 28, 29, 30, 31, 32, 33, 34, 35, 36, 37, 38, 39, 40, 41, 42, 43, 44, 45, 46, 47, 48, 49, 50, 51, 52, 53, 54, 55] (by decide +kernel) (by decide +kernel)
set_option maxRecDepth 20000 in
theorem gX9_lawHere_X9_isSame : GoodIn wsX9_lawHere (wsV RX9 104 RX9 yX9_isSame wsX9_isSame) := goodIn_app (goodIn_of _ (by decide +kernel)) ggX9_lawHere_X9_isSame
theorem dX9_lawHere_0 : decode cX9_lawHere 0 = .ok (.aload_n 0, 1) := by decide +kernel
theorem dX9_lawHere_1 : decode cX9_lawHere 1 = .ok (.bipush 108, 2) := by decide +kernel
theorem dX9_lawHere_3 : decode cX9_lawHere 3 = .ok (.bipush 111, 2) := by decide +kernel
theorem dX9_lawHere_5 : decode cX9_lawHere 5 = .ok (.bipush 117, 2) := by decide +kernel
theorem dX9_lawHere_7 : decode cX9_lawHere 7 = .ok (.bipush 100, 2) := by decide +kernel
theorem dX9_lawHere_9 : decode cX9_lawHere 9 = .ok (.invokevirtual 108, 3) := by decide +kernel
theorem dX9_lawHere_12 : decode cX9_lawHere 12 = .ok (.ifCond .eq 5, 3) := by decide +kernel
theorem dX9_lawHere_15 : decode cX9_lawHere 15 = .ok (.iconst 5, 1) := by decide +kernel
theorem dX9_lawHere_16 : decode cX9_lawHere 16 = .ok (.ireturn, 1) := by decide +kernel
theorem dX9_lawHere_17 : decode cX9_lawHere 17 = .ok (.aload_n 0, 1) := by decide +kernel
theorem dX9_lawHere_18 : decode cX9_lawHere 18 = .ok (.bipush 113, 2) := by decide +kernel
theorem dX9_lawHere_20 : decode cX9_lawHere 20 = .ok (.bipush 117, 2) := by decide +kernel
theorem dX9_lawHere_22 : decode cX9_lawHere 22 = .ok (.bipush 105, 2) := by decide +kernel
theorem dX9_lawHere_24 : decode cX9_lawHere 24 = .ok (.bipush 101, 2) := by decide +kernel
theorem dX9_lawHere_26 : decode cX9_lawHere 26 = .ok (.bipush 116, 2) := by decide +kernel
theorem dX9_lawHere_28 : decode cX9_lawHere 28 = .ok (.invokevirtual 111, 3) := by decide +kernel
theorem dX9_lawHere_31 : decode cX9_lawHere 31 = .ok (.ifCond .eq 6, 3) := by decide +kernel
theorem dX9_lawHere_34 : decode cX9_lawHere 34 = .ok (.bipush 6, 2) := by decide +kernel
theorem dX9_lawHere_36 : decode cX9_lawHere 36 = .ok (.ireturn, 1) := by decide +kernel
theorem dX9_lawHere_37 : decode cX9_lawHere 37 = .ok (.aload_n 0, 1) := by decide +kernel
theorem dX9_lawHere_38 : decode cX9_lawHere 38 = .ok (.bipush 6, 2) := by decide +kernel
theorem dX9_lawHere_40 : decode cX9_lawHere 40 = .ok (.bipush 103, 2) := by decide +kernel
theorem dX9_lawHere_42 : decode cX9_lawHere 42 = .ok (.bipush 114, 2) := by decide +kernel
theorem dX9_lawHere_44 : decode cX9_lawHere 44 = .ok (.bipush 111, 2) := by decide +kernel
theorem dX9_lawHere_46 : decode cX9_lawHere 46 = .ok (.bipush 104, 2) := by decide +kernel
theorem dX9_lawHere_48 : decode cX9_lawHere 48 = .ok (.invokevirtual 100, 3) := by decide +kernel
theorem dX9_lawHere_51 : decode cX9_lawHere 51 = .ok (.ifCond .eq 20, 3) := by decide +kernel
theorem dX9_lawHere_54 : decode cX9_lawHere 54 = .ok (.aload_n 0, 1) := by decide +kernel
theorem dX9_lawHere_55 : decode cX9_lawHere 55 = .ok (.iconst 2, 1) := by decide +kernel
theorem dX9_lawHere_56 : decode cX9_lawHere 56 = .ok (.bipush 111, 2) := by decide +kernel
theorem dX9_lawHere_58 : decode cX9_lawHere 58 = .ok (.bipush 119, 2) := by decide +kernel
theorem dX9_lawHere_60 : decode cX9_lawHere 60 = .ok (.bipush 116, 2) := by decide +kernel
theorem dX9_lawHere_62 : decode cX9_lawHere 62 = .ok (.invokevirtual 104, 3) := by decide +kernel
theorem dX9_lawHere_65 : decode cX9_lawHere 65 = .ok (.ifCond .eq 6, 3) := by decide +kernel
theorem dX9_lawHere_68 : decode cX9_lawHere 68 = .ok (.bipush 7, 2) := by decide +kernel
theorem dX9_lawHere_70 : decode cX9_lawHere 70 = .ok (.ireturn, 1) := by decide +kernel
theorem dX9_lawHere_71 : decode cX9_lawHere 71 = .ok (.aload_n 0, 1) := by decide +kernel
theorem dX9_lawHere_72 : decode cX9_lawHere 72 = .ok (.iconst 3, 1) := by decide +kernel
theorem dX9_lawHere_73 : decode cX9_lawHere 73 = .ok (.bipush 108, 2) := by decide +kernel
theorem dX9_lawHere_75 : decode cX9_lawHere 75 = .ok (.bipush 111, 2) := by decide +kernel
theorem dX9_lawHere_77 : decode cX9_lawHere 77 = .ok (.bipush 116, 2) := by decide +kernel
theorem dX9_lawHere_79 : decode cX9_lawHere 79 = .ok (.bipush 116, 2) := by decide +kernel
theorem dX9_lawHere_81 : decode cX9_lawHere 81 = .ok (.invokevirtual 100, 3) := by decide +kernel
theorem dX9_lawHere_84 : decode cX9_lawHere 84 = .ok (.ifCond .eq 8, 3) := by decide +kernel
theorem dX9_lawHere_87 : decode cX9_lawHere 87 = .ok (.bipush 8, 2) := by decide +kernel
theorem dX9_lawHere_89 : decode cX9_lawHere 89 = .ok (.goto 4, 3) := by decide +kernel
theorem dX9_lawHere_92 : decode cX9_lawHere 92 = .ok (.iconst (-1), 1) := by decide +kernel
theorem dX9_lawHere_93 : decode cX9_lawHere 93 = .ok (.ireturn, 1) := by decide +kernel
set_option maxRecDepth 20000 in
theorem ggX9_itemHere_X9_kindHere : GoodIn wsX9_itemHere wsX9_kindHere := goodIn_r _ [7, 8, 9, 10, 6, 11, 1, 12, 2, 13, 14, 15, 16, 17, 18, 19, 20, 21, 22, 23, 24, 25, 26, 27, 28, 29, 30, 88, 89, 90, 91, 92, 93, 94, 95, 96, 97, 98, 99, 100, 101, 102, 103, 104, 105, 106, 107, 108, 109, 110, 111, 112, 113, 114, 115, 116] (by decide +kernel) (by decide +kernel)
set_option maxRecDepth 20000 in
theorem gX9_itemHere_X9_kindHere : GoodIn wsX9_itemHere (wsV RX9 136 RX9 yX9_kindHere wsX9_kindHere) := goodIn_app (goodIn_of _ (by decide +kernel)) ggX9_itemHere_X9_kindHere
set_option maxRecDepth 20000 in
theorem ggX9_itemHere_X9_lawHere : GoodIn wsX9_itemHere wsX9_lawHere := goodIn_r _ [34, 23, 24, 25, 6, 26, 8, 9, 10, 11, 1, 12, 2, 13, 14, 15, 16, 17, 18, 27, 28, 29, 30, 19, 20, 21, 22, 88, 89, 90, 91, 92, 93, 94, 95, 96, 97, 98, 99, 100, 101, 102, 103, 104, 105, 106, 107, 108, 109, 110, 111, 112, 113, 114, 115, 116] (by decide +kernel) (by decide +kernel)
set_option maxRecDepth 20000 in
theorem gX9_itemHere_X9_lawHere : GoodIn wsX9_itemHere (wsV RX9 140 RX9 yX9_lawHere wsX9_lawHere) := goodIn_app (goodIn_of _ (by decide +kernel)) ggX9_itemHere_X9_lawHere
set_option maxRecDepth 20000 in
theorem ggX9_itemHere_X9_personHere : GoodIn wsX9_itemHere wsX9_personHere := goodIn_r _ [38, 39, 40, 41, 42, 43, 6, 44, 45, 46, 47, 48, 12, 2, 1, 49, 13, 14, 15, 16, 17, 18, 50, 51, 52, 53, 54, 55, 56, 57, 58, 59, 23, 24, 25, 26, 8, 9, 10, 11, 60, 61, 62, 63, 64, 65, 66, 67, 27, 28, 29, 30, 88, 89, 90, 91, 92, 93, 94, 95, 96, 97, 98, 99, 100, 101, 102, 103, 104, 105, 106, 107, 108, 109, 110, 111, 112, 113, 114, 115, 116] (by decide +kernel) (by decide +kernel)
set_option maxRecDepth 20000 in
theorem gX9_itemHere_X9_personHere : GoodIn wsX9_itemHere (wsV RX9 143 RX9 yX9_personHere wsX9_personHere) := goodIn_app (goodIn_of _ (by decide +kernel)) ggX9_itemHere_X9_personHere
set_option maxRecDepth 20000 in
theorem ggX9_itemHere_X9_nextToken : GoodIn wsX9_itemHere wsX9_nextToken := goodIn_r _ [48, 12, 2, 1, 49, 13, 14, 15, 6, 16, 17, 18, 50, 51, 52, 53, 54, 55, 88, 89, 90, 91, 92, 93, 94, 95, 96, 97, 98, 99, 100, 101, 102, 103, 104, 105, 106, 107, 108, 109, 110, 111, 112, 113, 114, 115, 116] (by decide +kernel) (by decide +kernel)
set_option maxRecDepth 20000 in
theorem gX9_itemHere_X9_nextToken : GoodIn wsX9_itemHere (wsV RX9 97 RX9 yX9_nextToken wsX9_nextToken) := goodIn_app (goodIn_of _ (by decide +kernel)) ggX9_itemHere_X9_nextToken
set_option maxRecDepth 20000 in
theorem ggX9_itemHere_X9_numberTo : GoodIn wsX9_itemHere wsX9_numberTo := goodIn_r _ [67, 1, 12, 2, 49, 40, 39, 41, 42, 43, 6, 44, 45, 46, 47, 48, 13, 14, 15, 16, 17, 18, 50, 51, 52, 53, 54, 55, 88, 89, 90, 91, 92, 93, 94, 95, 96, 97, 98, 99, 100, 101, 102, 103, 104, 105, 106, 107, 108, 109, 110, 111, 112, 113, 114, 115, 116] (by decide +kernel) (by decide +kernel)
set_option maxRecDepth 20000 in
theorem gX9_itemHere_X9_numberTo : GoodIn wsX9_itemHere (wsV RX9 118 RX9 yX9_numberTo wsX9_numberTo) := goodIn_app (goodIn_of _ (by decide +kernel)) ggX9_itemHere_X9_numberTo
set_option maxRecDepth 20000 in
theorem ggX9_itemHere_X9_isFour : GoodIn wsX9_itemHere wsX9_isFour := goodIn_r _ [26, 8, 9, 10, 6, 11, 1, 12, 2, 13, 14, 15, 16, 17, 18, 88, 89, 90, 91, 92, 93, 94, 95, 96, 97, 98, 99, 100, 101, 102, 103, 104, 105, 106, 107, 108, 109, 110, 111, 112, 113, 114, 115, 116] (by decide +kernel) (by decide +kernel)
set_option maxRecDepth 20000 in
theorem gX9_itemHere_X9_isFour : GoodIn wsX9_itemHere (wsV RX9 108 RX9 yX9_isFour wsX9_isFour) := goodIn_app (goodIn_of _ (by decide +kernel)) ggX9_itemHere_X9_isFour
set_option maxRecDepth 20000 in
theorem ggX9_itemHere_X9_pairHere : GoodIn wsX9_itemHere wsX9_pairHere := goodIn_r _ [71, 49, 1, 12, 2, 40, 45, 46, 47, 6, 48, 13, 14, 15, 16, 17, 18, 50, 51, 52, 53, 54, 55, 72, 73, 74, 75, 39, 41, 42, 43, 44, 23, 24, 25, 26, 8, 9, 10, 11, 76, 77, 78, 79, 80, 81, 82, 83, 84, 85, 86, 87, 88, 89, 90, 91, 92, 93, 94, 95, 96, 97, 98, 99, 100, 101, 102, 103, 104, 105, 106, 107, 108, 109, 110, 111, 112, 113, 114, 115, 116] (by decide +kernel) (by decide +kernel)
set_option maxRecDepth 20000 in
theorem gX9_itemHere_X9_pairHere : GoodIn wsX9_itemHere (wsV RX9 147 RX9 yX9_pairHere wsX9_pairHere) := goodIn_app (goodIn_of _ (by decide +kernel)) ggX9_itemHere_X9_pairHere
set_option maxRecDepth 20000 in
theorem ggX9_itemHere_X9_needs : GoodIn wsX9_itemHere wsX9_needs := goodIn_r _ [44, 40, 45, 46, 47, 6, 48, 12, 2, 1, 49, 13, 14, 15, 16, 17, 18, 50, 51, 52, 53, 54, 55, 88, 89, 90, 91, 92, 93, 94, 95, 96, 97, 98, 99, 100, 101, 102, 103, 104, 105, 106, 107, 108, 109, 110, 111, 112, 113, 114, 115, 116] (by decide +kernel) (by decide +kernel)
set_option maxRecDepth 20000 in
theorem gX9_itemHere_X9_needs : GoodIn wsX9_itemHere (wsV RX9 114 RX9 yX9_needs wsX9_needs) := goodIn_app (goodIn_of _ (by decide +kernel)) ggX9_itemHere_X9_needs
set_option maxRecDepth 20000 in
theorem ggX9_itemHere_X9_byteAt : GoodIn wsX9_itemHere wsX9_byteAt := goodIn_r _ [16, 17, 18, 88, 89, 90, 91, 92, 93, 94, 95, 96, 97, 98, 99, 100, 101, 102, 103, 104, 105, 106, 107, 108, 109, 110, 111, 112, 113, 114, 115, 116] (by decide +kernel) (by decide +kernel)
set_option maxRecDepth 20000 in
theorem gX9_itemHere_X9_byteAt : GoodIn wsX9_itemHere (wsV RX9 76 RX9 yX9_byteAt wsX9_byteAt) := goodIn_app (goodIn_of _ (by decide +kernel)) ggX9_itemHere_X9_byteAt
theorem dX9_itemHere_0 : decode cX9_itemHere 0 = .ok (.aload_n 0, 1) := by decide +kernel
theorem dX9_itemHere_1 : decode cX9_itemHere 1 = .ok (.invokevirtual 136, 3) := by decide +kernel
theorem dX9_itemHere_4 : decode cX9_itemHere 4 = .ok (.istore_n 1, 1) := by decide +kernel
theorem dX9_itemHere_5 : decode cX9_itemHere 5 = .ok (.aload_n 0, 1) := by decide +kernel
theorem dX9_itemHere_6 : decode cX9_itemHere 6 = .ok (.invokevirtual 140, 3) := by decide +kernel
theorem dX9_itemHere_9 : decode cX9_itemHere 9 = .ok (.istore_n 2, 1) := by decide +kernel
theorem dX9_itemHere_10 : decode cX9_itemHere 10 = .ok (.iload_n 1, 1) := by decide +kernel
theorem dX9_itemHere_11 : decode cX9_itemHere 11 = .ok (.ifCond .lt 11, 3) := by decide +kernel
theorem dX9_itemHere_14 : decode cX9_itemHere 14 = .ok (.aload_n 0, 1) := by decide +kernel
theorem dX9_itemHere_15 : decode cX9_itemHere 15 = .ok (.iload_n 1, 1) := by decide +kernel
theorem dX9_itemHere_16 : decode cX9_itemHere 16 = .ok (.invokevirtual 143, 3) := by decide +kernel
theorem dX9_itemHere_19 : decode cX9_itemHere 19 = .ok (.goto 59, 3) := by decide +kernel
theorem dX9_itemHere_22 : decode cX9_itemHere 22 = .ok (.iload_n 2, 1) := by decide +kernel
theorem dX9_itemHere_23 : decode cX9_itemHere 23 = .ok (.ifCond .lt 28, 3) := by decide +kernel
theorem dX9_itemHere_26 : decode cX9_itemHere 26 = .ok (.aload_n 0, 1) := by decide +kernel
theorem dX9_itemHere_27 : decode cX9_itemHere 27 = .ok (.invokevirtual 97, 3) := by decide +kernel
theorem dX9_itemHere_30 : decode cX9_itemHere 30 = .ok (.aload_n 0, 1) := by decide +kernel
theorem dX9_itemHere_31 : decode cX9_itemHere 31 = .ok (.iload_n 2, 1) := by decide +kernel
theorem dX9_itemHere_32 : decode cX9_itemHere 32 = .ok (.iload_n 2, 1) := by decide +kernel
theorem dX9_itemHere_33 : decode cX9_itemHere 33 = .ok (.bipush 8, 2) := by decide +kernel
theorem dX9_itemHere_35 : decode cX9_itemHere 35 = .ok (.if_icmp .ne 8, 3) := by decide +kernel
theorem dX9_itemHere_38 : decode cX9_itemHere 38 = .ok (.bipush 99, 2) := by decide +kernel
theorem dX9_itemHere_40 : decode cX9_itemHere 40 = .ok (.goto 5, 3) := by decide +kernel
theorem dX9_itemHere_43 : decode cX9_itemHere 43 = .ok (.bipush 9, 2) := by decide +kernel
theorem dX9_itemHere_45 : decode cX9_itemHere 45 = .ok (.invokevirtual 118, 3) := by decide +kernel
theorem dX9_itemHere_48 : decode cX9_itemHere 48 = .ok (.goto 30, 3) := by decide +kernel
theorem dX9_itemHere_51 : decode cX9_itemHere 51 = .ok (.aload_n 0, 1) := by decide +kernel
theorem dX9_itemHere_52 : decode cX9_itemHere 52 = .ok (.bipush 112, 2) := by decide +kernel
theorem dX9_itemHere_54 : decode cX9_itemHere 54 = .ok (.bipush 97, 2) := by decide +kernel
theorem dX9_itemHere_56 : decode cX9_itemHere 56 = .ok (.bipush 105, 2) := by decide +kernel
theorem dX9_itemHere_58 : decode cX9_itemHere 58 = .ok (.bipush 114, 2) := by decide +kernel
theorem dX9_itemHere_60 : decode cX9_itemHere 60 = .ok (.invokevirtual 108, 3) := by decide +kernel
theorem dX9_itemHere_63 : decode cX9_itemHere 63 = .ok (.ifCond .eq 10, 3) := by decide +kernel
theorem dX9_itemHere_66 : decode cX9_itemHere 66 = .ok (.aload_n 0, 1) := by decide +kernel
theorem dX9_itemHere_67 : decode cX9_itemHere 67 = .ok (.invokevirtual 147, 3) := by decide +kernel
theorem dX9_itemHere_70 : decode cX9_itemHere 70 = .ok (.goto 8, 3) := by decide +kernel
theorem dX9_itemHere_73 : decode cX9_itemHere 73 = .ok (.aload_n 0, 1) := by decide +kernel
theorem dX9_itemHere_74 : decode cX9_itemHere 74 = .ok (.iconst 0, 1) := by decide +kernel
theorem dX9_itemHere_75 : decode cX9_itemHere 75 = .ok (.invokevirtual 114, 3) := by decide +kernel
theorem dX9_itemHere_78 : decode cX9_itemHere 78 = .ok (.aload_n 0, 1) := by decide +kernel
theorem dX9_itemHere_79 : decode cX9_itemHere 79 = .ok (.aload_n 0, 1) := by decide +kernel
theorem dX9_itemHere_80 : decode cX9_itemHere 80 = .ok (.getfield 87, 3) := by decide +kernel
theorem dX9_itemHere_83 : decode cX9_itemHere 83 = .ok (.iconst 3, 1) := by decide +kernel
theorem dX9_itemHere_84 : decode cX9_itemHere 84 = .ok (.if_icmp .ne 20, 3) := by decide +kernel
theorem dX9_itemHere_87 : decode cX9_itemHere 87 = .ok (.aload_n 0, 1) := by decide +kernel
theorem dX9_itemHere_88 : decode cX9_itemHere 88 = .ok (.aload_n 0, 1) := by decide +kernel
theorem dX9_itemHere_89 : decode cX9_itemHere 89 = .ok (.getfield 73, 3) := by decide +kernel
theorem dX9_itemHere_92 : decode cX9_itemHere 92 = .ok (.invokevirtual 76, 3) := by decide +kernel
theorem dX9_itemHere_95 : decode cX9_itemHere 95 = .ok (.bipush 59, 2) := by decide +kernel
theorem dX9_itemHere_97 : decode cX9_itemHere 97 = .ok (.if_icmp .ne 7, 3) := by decide +kernel
theorem dX9_itemHere_100 : decode cX9_itemHere 100 = .ok (.iconst 1, 1) := by decide +kernel
theorem dX9_itemHere_101 : decode cX9_itemHere 101 = .ok (.goto 4, 3) := by decide +kernel
theorem dX9_itemHere_104 : decode cX9_itemHere 104 = .ok (.iconst 0, 1) := by decide +kernel
theorem dX9_itemHere_105 : decode cX9_itemHere 105 = .ok (.invokevirtual 114, 3) := by decide +kernel
theorem dX9_itemHere_108 : decode cX9_itemHere 108 = .ok (.return_, 1) := by decide +kernel
set_option maxRecDepth 20000 in
theorem ggX9_town_X9_copyRow : GoodIn wsX9_town wsX9_copyRow := goodIn_r _ [12] (by decide +kernel) (by decide +kernel)
set_option maxRecDepth 20000 in
theorem gX9_town_X9_copyRow : GoodIn wsX9_town (va_wsS RX9 150 yX9_copyRow wsX9_copyRow) := goodIn_app (goodIn_of _ (by decide +kernel)) ggX9_town_X9_copyRow
set_option maxRecDepth 20000 in
theorem ggX9_town_X9_begins : GoodIn wsX9_town wsX9_begins := goodIn_r _ [16, 1, 101, 102, 103, 104, 105, 106, 107, 108, 109, 110, 111, 112, 113, 114, 115, 116, 117, 118, 119, 120, 121, 122, 123, 124, 125, 126, 127, 128, 129] (by decide +kernel) (by decide +kernel)
set_option maxRecDepth 20000 in
theorem gX9_town_X9_begins : GoodIn wsX9_town (wsV RX9 55 RX9 yX9_begins wsX9_begins) := goodIn_app (goodIn_of _ (by decide +kernel)) ggX9_town_X9_begins
set_option maxRecDepth 20000 in
theorem ggX9_town_X9_nextToken : GoodIn wsX9_town wsX9_nextToken := goodIn_r _ [20, 3, 7, 5, 21, 22, 23, 24, 11, 25, 6, 26, 27, 28, 29, 30, 31, 32, 101, 102, 103, 104, 105, 106, 107, 108, 109, 110, 111, 112, 113, 114, 115, 116, 117, 118, 119, 120, 121, 122, 123, 124, 125, 126, 127, 128, 129] (by decide +kernel) (by decide +kernel)
set_option maxRecDepth 20000 in
theorem gX9_town_X9_nextToken : GoodIn wsX9_town (wsV RX9 97 RX9 yX9_nextToken wsX9_nextToken) := goodIn_app (goodIn_of _ (by decide +kernel)) ggX9_town_X9_nextToken
set_option maxRecDepth 20000 in
theorem ggX9_town_X9_itemHere : GoodIn wsX9_town wsX9_itemHere := goodIn_r _ [36, 5, 7, 37, 38, 39, 11, 40, 41, 42, 43, 44, 3, 22, 23, 24, 25, 6, 26, 45, 46, 47, 48, 49, 50, 51, 52, 53, 54, 55, 56, 57, 58, 59, 60, 61, 62, 63, 64, 1, 4, 65, 66, 67, 68, 17, 18, 19, 20, 21, 27, 28, 29, 30, 31, 32, 69, 70, 71, 72, 73, 74, 75, 76, 77, 78, 79, 80, 81, 82, 83, 84, 85, 86, 87, 88, 89, 90, 91, 92, 93, 94, 95, 96, 97, 98, 99, 100, 101, 102, 103, 104, 105, 106, 107, 108, 109, 110, 111, 112, 113, 114, 115, 116, 117, 118, 119, 120, 121, 122, 123, 124, 125, 126, 127, 128, 129] (by decide +kernel) (by decide +kernel)
set_option maxRecDepth 20000 in
theorem gX9_town_X9_itemHere : GoodIn wsX9_town (wsV RX9 154 RX9 yX9_itemHere wsX9_itemHere) := goodIn_app (goodIn_of _ (by decide +kernel)) ggX9_town_X9_itemHere
theorem dX9_town_0 : decode cX9_town 0 = .ok (.aload_n 0, 1) := by decide +kernel
theorem dX9_town_1 : decode cX9_town 1 = .ok (.getfield 7, 3) := by decide +kernel
theorem dX9_town_4 : decode cX9_town 4 = .ok (.aload_n 0, 1) := by decide +kernel
theorem dX9_town_5 : decode cX9_town 5 = .ok (.getfield 19, 3) := by decide +kernel
theorem dX9_town_8 : decode cX9_town 8 = .ok (.invokestatic 150, 3) := by decide +kernel
theorem dX9_town_11 : decode cX9_town 11 = .ok (.aload_n 0, 1) := by decide +kernel
theorem dX9_town_12 : decode cX9_town 12 = .ok (.invokevirtual 55, 3) := by decide +kernel
theorem dX9_town_15 : decode cX9_town 15 = .ok (.aload_n 0, 1) := by decide +kernel
theorem dX9_town_16 : decode cX9_town 16 = .ok (.iconst 0, 1) := by decide +kernel
theorem dX9_town_17 : decode cX9_town 17 = .ok (.putfield 70, 3) := by decide +kernel
theorem dX9_town_20 : decode cX9_town 20 = .ok (.aload_n 0, 1) := by decide +kernel
theorem dX9_town_21 : decode cX9_town 21 = .ok (.iconst 0, 1) := by decide +kernel
theorem dX9_town_22 : decode cX9_town 22 = .ok (.putfield 93, 3) := by decide +kernel
theorem dX9_town_25 : decode cX9_town 25 = .ok (.aload_n 0, 1) := by decide +kernel
theorem dX9_town_26 : decode cX9_town 26 = .ok (.invokevirtual 97, 3) := by decide +kernel
theorem dX9_town_29 : decode cX9_town 29 = .ok (.aload_n 0, 1) := by decide +kernel
theorem dX9_town_30 : decode cX9_town 30 = .ok (.getfield 93, 3) := by decide +kernel
theorem dX9_town_33 : decode cX9_town 33 = .ok (.ifCond .ne 17, 3) := by decide +kernel
theorem dX9_town_36 : decode cX9_town 36 = .ok (.aload_n 0, 1) := by decide +kernel
theorem dX9_town_37 : decode cX9_town 37 = .ok (.getfield 87, 3) := by decide +kernel
theorem dX9_town_40 : decode cX9_town 40 = .ok (.ifCond .eq 10, 3) := by decide +kernel
theorem dX9_town_43 : decode cX9_town 43 = .ok (.aload_n 0, 1) := by decide +kernel
theorem dX9_town_44 : decode cX9_town 44 = .ok (.invokevirtual 154, 3) := by decide +kernel
theorem dX9_town_47 : decode cX9_town 47 = .ok (.goto (-18), 3) := by decide +kernel
theorem dX9_town_50 : decode cX9_town 50 = .ok (.aload_n 0, 1) := by decide +kernel
theorem dX9_town_51 : decode cX9_town 51 = .ok (.iconst 0, 1) := by decide +kernel
theorem dX9_town_52 : decode cX9_town 52 = .ok (.putfield 64, 3) := by decide +kernel
theorem dX9_town_55 : decode cX9_town 55 = .ok (.aload_n 0, 1) := by decide +kernel
theorem dX9_town_56 : decode cX9_town 56 = .ok (.getfield 93, 3) := by decide +kernel
theorem dX9_town_59 : decode cX9_town 59 = .ok (.ifCond .eq 22, 3) := by decide +kernel
theorem dX9_town_62 : decode cX9_town 62 = .ok (.aload_n 0, 1) := by decide +kernel
theorem dX9_town_63 : decode cX9_town 63 = .ok (.getfield 19, 3) := by decide +kernel
theorem dX9_town_66 : decode cX9_town 66 = .ok (.aload_n 0, 1) := by decide +kernel
theorem dX9_town_67 : decode cX9_town 67 = .ok (.getfield 7, 3) := by decide +kernel
theorem dX9_town_70 : decode cX9_town 70 = .ok (.invokestatic 150, 3) := by decide +kernel
theorem dX9_town_73 : decode cX9_town 73 = .ok (.bipush (-100), 2) := by decide +kernel
theorem dX9_town_75 : decode cX9_town 75 = .ok (.aload_n 0, 1) := by decide +kernel
theorem dX9_town_76 : decode cX9_town 76 = .ok (.getfield 73, 3) := by decide +kernel
theorem dX9_town_79 : decode cX9_town 79 = .ok (.isub, 1) := by decide +kernel
theorem dX9_town_80 : decode cX9_town 80 = .ok (.ireturn, 1) := by decide +kernel
theorem dX9_town_81 : decode cX9_town 81 = .ok (.aload_n 0, 1) := by decide +kernel
theorem dX9_town_82 : decode cX9_town 82 = .ok (.iconst 0, 1) := by decide +kernel
theorem dX9_town_83 : decode cX9_town 83 = .ok (.putfield 157, 3) := by decide +kernel
theorem dX9_town_86 : decode cX9_town 86 = .ok (.aload_n 0, 1) := by decide +kernel
theorem dX9_town_87 : decode cX9_town 87 = .ok (.getfield 7, 3) := by decide +kernel
theorem dX9_town_90 : decode cX9_town 90 = .ok (.iconst 0, 1) := by decide +kernel
theorem dX9_town_91 : decode cX9_town 91 = .ok (.iaload, 1) := by decide +kernel
theorem dX9_town_92 : decode cX9_town 92 = .ok (.ireturn, 1) := by decide +kernel
set_option maxRecDepth 20000 in
theorem ggX9_set_X9_isIn : GoodIn wsX9_set wsX9_isIn := goodIn_r _ [7] (by decide +kernel) (by decide +kernel)
set_option maxRecDepth 20000 in
theorem gX9_set_X9_isIn : GoodIn wsX9_set (va_wsS RX9 60 yX9_isIn wsX9_isIn) := goodIn_app (goodIn_of _ (by decide +kernel)) ggX9_set_X9_isIn
set_option maxRecDepth 20000 in
theorem ggX9_set_X9_becomes : GoodIn wsX9_set wsX9_becomes := goodIn_r _ [11, 12, 13, 14, 15, 16, 17, 18, 19, 20, 21, 22, 23, 24, 25, 26, 27, 28, 29, 30, 31, 32, 33, 34, 35, 36, 37, 38, 39, 40, 41] (by decide +kernel) (by decide +kernel)
set_option maxRecDepth 20000 in
theorem gX9_set_X9_becomes : GoodIn wsX9_set (wsV RX9 166 RX9 yX9_becomes wsX9_becomes) := goodIn_app (goodIn_of _ (by decide +kernel)) ggX9_set_X9_becomes
theorem dX9_set_0 : decode cX9_set 0 = .ok (.iload_n 1, 1) := by decide +kernel
theorem dX9_set_1 : decode cX9_set 1 = .ok (.i2l, 1) := by decide +kernel
theorem dX9_set_2 : decode cX9_set 2 = .ok (.lconst 0, 1) := by decide +kernel
theorem dX9_set_3 : decode cX9_set 3 = .ok (.ldc2_w 160, 3) := by decide +kernel
theorem dX9_set_6 : decode cX9_set 6 = .ok (.invokestatic 60, 3) := by decide +kernel
theorem dX9_set_9 : decode cX9_set 9 = .ok (.ifCond .eq 37, 3) := by decide +kernel
theorem dX9_set_12 : decode cX9_set 12 = .ok (.iload_n 2, 1) := by decide +kernel
theorem dX9_set_13 : decode cX9_set 13 = .ok (.i2l, 1) := by decide +kernel
theorem dX9_set_14 : decode cX9_set 14 = .ok (.lconst 0, 1) := by decide +kernel
theorem dX9_set_15 : decode cX9_set 15 = .ok (.iload_n 1, 1) := by decide +kernel
theorem dX9_set_16 : decode cX9_set 16 = .ok (.iconst 3, 1) := by decide +kernel
theorem dX9_set_17 : decode cX9_set 17 = .ok (.if_icmp .ne 9, 3) := by decide +kernel
theorem dX9_set_20 : decode cX9_set 20 = .ok (.ldc2_w 162, 3) := by decide +kernel
theorem dX9_set_23 : decode cX9_set 23 = .ok (.goto 6, 3) := by decide +kernel
theorem dX9_set_26 : decode cX9_set 26 = .ok (.ldc2_w 164, 3) := by decide +kernel
theorem dX9_set_29 : decode cX9_set 29 = .ok (.invokestatic 60, 3) := by decide +kernel
theorem dX9_set_32 : decode cX9_set 32 = .ok (.ifCond .eq 14, 3) := by decide +kernel
theorem dX9_set_35 : decode cX9_set 35 = .ok (.aload_n 0, 1) := by decide +kernel
theorem dX9_set_36 : decode cX9_set 36 = .ok (.iconst 5, 1) := by decide +kernel
theorem dX9_set_37 : decode cX9_set 37 = .ok (.iload_n 1, 1) := by decide +kernel
theorem dX9_set_38 : decode cX9_set 38 = .ok (.iadd, 1) := by decide +kernel
theorem dX9_set_39 : decode cX9_set 39 = .ok (.iload_n 2, 1) := by decide +kernel
theorem dX9_set_40 : decode cX9_set 40 = .ok (.invokevirtual 166, 3) := by decide +kernel
theorem dX9_set_43 : decode cX9_set 43 = .ok (.goto 4, 3) := by decide +kernel
theorem dX9_set_46 : decode cX9_set 46 = .ok (.iconst (-1), 1) := by decide +kernel
theorem dX9_set_47 : decode cX9_set 47 = .ok (.ireturn, 1) := by decide +kernel
set_option maxRecDepth 20000 in
theorem ggX9_lawOf_X9_isIn : GoodIn wsX9_lawOf wsX9_isIn := goodIn_r _ [6] (by decide +kernel) (by decide +kernel)
set_option maxRecDepth 20000 in
theorem gX9_lawOf_X9_isIn : GoodIn wsX9_lawOf (va_wsS RX9 60 yX9_isIn wsX9_isIn) := goodIn_app (goodIn_of _ (by decide +kernel)) ggX9_lawOf_X9_isIn
theorem dX9_lawOf_0 : decode cX9_lawOf 0 = .ok (.iload_n 1, 1) := by decide +kernel
theorem dX9_lawOf_1 : decode cX9_lawOf 1 = .ok (.i2l, 1) := by decide +kernel
theorem dX9_lawOf_2 : decode cX9_lawOf 2 = .ok (.lconst 0, 1) := by decide +kernel
theorem dX9_lawOf_3 : decode cX9_lawOf 3 = .ok (.ldc2_w 160, 3) := by decide +kernel
theorem dX9_lawOf_6 : decode cX9_lawOf 6 = .ok (.invokestatic 60, 3) := by decide +kernel
theorem dX9_lawOf_9 : decode cX9_lawOf 9 = .ok (.ifCond .eq 14, 3) := by decide +kernel
theorem dX9_lawOf_12 : decode cX9_lawOf 12 = .ok (.aload_n 0, 1) := by decide +kernel
theorem dX9_lawOf_13 : decode cX9_lawOf 13 = .ok (.getfield 7, 3) := by decide +kernel
theorem dX9_lawOf_16 : decode cX9_lawOf 16 = .ok (.iconst 5, 1) := by decide +kernel
theorem dX9_lawOf_17 : decode cX9_lawOf 17 = .ok (.iload_n 1, 1) := by decide +kernel
theorem dX9_lawOf_18 : decode cX9_lawOf 18 = .ok (.iadd, 1) := by decide +kernel
theorem dX9_lawOf_19 : decode cX9_lawOf 19 = .ok (.iaload, 1) := by decide +kernel
theorem dX9_lawOf_20 : decode cX9_lawOf 20 = .ok (.goto 4, 3) := by decide +kernel
theorem dX9_lawOf_23 : decode cX9_lawOf 23 = .ok (.iconst (-1), 1) := by decide +kernel
theorem dX9_lawOf_24 : decode cX9_lawOf 24 = .ok (.ireturn, 1) := by decide +kernel
theorem dX9_comes_0 : decode cX9_comes 0 = .ok (.bipush 9, 2) := by decide +kernel
theorem dX9_comes_2 : decode cX9_comes 2 = .ok (.bipush 6, 2) := by decide +kernel
theorem dX9_comes_4 : decode cX9_comes 4 = .ok (.aload_n 0, 1) := by decide +kernel
theorem dX9_comes_5 : decode cX9_comes 5 = .ok (.getfield 7, 3) := by decide +kernel
theorem dX9_comes_8 : decode cX9_comes 8 = .ok (.iconst 0, 1) := by decide +kernel
theorem dX9_comes_9 : decode cX9_comes 9 = .ok (.iaload, 1) := by decide +kernel
theorem dX9_comes_10 : decode cX9_comes 10 = .ok (.imul, 1) := by decide +kernel
theorem dX9_comes_11 : decode cX9_comes 11 = .ok (.iadd, 1) := by decide +kernel
theorem dX9_comes_12 : decode cX9_comes 12 = .ok (.istore 5, 2) := by decide +kernel
theorem dX9_comes_14 : decode cX9_comes 14 = .ok (.aload_n 0, 1) := by decide +kernel
theorem dX9_comes_15 : decode cX9_comes 15 = .ok (.getfield 7, 3) := by decide +kernel
theorem dX9_comes_18 : decode cX9_comes 18 = .ok (.iload 5, 2) := by decide +kernel
theorem dX9_comes_20 : decode cX9_comes 20 = .ok (.iload_n 1, 1) := by decide +kernel
theorem dX9_comes_21 : decode cX9_comes 21 = .ok (.iastore, 1) := by decide +kernel
theorem dX9_comes_22 : decode cX9_comes 22 = .ok (.aload_n 0, 1) := by decide +kernel
theorem dX9_comes_23 : decode cX9_comes 23 = .ok (.getfield 7, 3) := by decide +kernel
theorem dX9_comes_26 : decode cX9_comes 26 = .ok (.iload 5, 2) := by decide +kernel
theorem dX9_comes_28 : decode cX9_comes 28 = .ok (.iconst 1, 1) := by decide +kernel
theorem dX9_comes_29 : decode cX9_comes 29 = .ok (.iadd, 1) := by decide +kernel
theorem dX9_comes_30 : decode cX9_comes 30 = .ok (.iload_n 2, 1) := by decide +kernel
theorem dX9_comes_31 : decode cX9_comes 31 = .ok (.iastore, 1) := by decide +kernel
theorem dX9_comes_32 : decode cX9_comes 32 = .ok (.aload_n 0, 1) := by decide +kernel
theorem dX9_comes_33 : decode cX9_comes 33 = .ok (.getfield 7, 3) := by decide +kernel
theorem dX9_comes_36 : decode cX9_comes 36 = .ok (.iload 5, 2) := by decide +kernel
theorem dX9_comes_38 : decode cX9_comes 38 = .ok (.iconst 2, 1) := by decide +kernel
theorem dX9_comes_39 : decode cX9_comes 39 = .ok (.iadd, 1) := by decide +kernel
theorem dX9_comes_40 : decode cX9_comes 40 = .ok (.iload_n 3, 1) := by decide +kernel
theorem dX9_comes_41 : decode cX9_comes 41 = .ok (.iastore, 1) := by decide +kernel
theorem dX9_comes_42 : decode cX9_comes 42 = .ok (.aload_n 0, 1) := by decide +kernel
theorem dX9_comes_43 : decode cX9_comes 43 = .ok (.getfield 7, 3) := by decide +kernel
theorem dX9_comes_46 : decode cX9_comes 46 = .ok (.iload 5, 2) := by decide +kernel
theorem dX9_comes_48 : decode cX9_comes 48 = .ok (.iconst 3, 1) := by decide +kernel
theorem dX9_comes_49 : decode cX9_comes 49 = .ok (.iadd, 1) := by decide +kernel
theorem dX9_comes_50 : decode cX9_comes 50 = .ok (.iload 4, 2) := by decide +kernel
theorem dX9_comes_52 : decode cX9_comes 52 = .ok (.iastore, 1) := by decide +kernel
theorem dX9_comes_53 : decode cX9_comes 53 = .ok (.aload_n 0, 1) := by decide +kernel
theorem dX9_comes_54 : decode cX9_comes 54 = .ok (.getfield 7, 3) := by decide +kernel
theorem dX9_comes_57 : decode cX9_comes 57 = .ok (.iload 5, 2) := by decide +kernel
theorem dX9_comes_59 : decode cX9_comes 59 = .ok (.iconst 4, 1) := by decide +kernel
theorem dX9_comes_60 : decode cX9_comes 60 = .ok (.iadd, 1) := by decide +kernel
theorem dX9_comes_61 : decode cX9_comes 61 = .ok (.iconst 0, 1) := by decide +kernel
theorem dX9_comes_62 : decode cX9_comes 62 = .ok (.iastore, 1) := by decide +kernel
theorem dX9_comes_63 : decode cX9_comes 63 = .ok (.aload_n 0, 1) := by decide +kernel
theorem dX9_comes_64 : decode cX9_comes 64 = .ok (.getfield 7, 3) := by decide +kernel
theorem dX9_comes_67 : decode cX9_comes 67 = .ok (.iload 5, 2) := by decide +kernel
theorem dX9_comes_69 : decode cX9_comes 69 = .ok (.iconst 5, 1) := by decide +kernel
theorem dX9_comes_70 : decode cX9_comes 70 = .ok (.iadd, 1) := by decide +kernel
theorem dX9_comes_71 : decode cX9_comes 71 = .ok (.iconst 1, 1) := by decide +kernel
theorem dX9_comes_72 : decode cX9_comes 72 = .ok (.iastore, 1) := by decide +kernel
theorem dX9_comes_73 : decode cX9_comes 73 = .ok (.aload_n 0, 1) := by decide +kernel
theorem dX9_comes_74 : decode cX9_comes 74 = .ok (.getfield 7, 3) := by decide +kernel
theorem dX9_comes_77 : decode cX9_comes 77 = .ok (.iconst 0, 1) := by decide +kernel
theorem dX9_comes_78 : decode cX9_comes 78 = .ok (.dup2, 1) := by decide +kernel
theorem dX9_comes_79 : decode cX9_comes 79 = .ok (.iaload, 1) := by decide +kernel
theorem dX9_comes_80 : decode cX9_comes 80 = .ok (.iconst 1, 1) := by decide +kernel
theorem dX9_comes_81 : decode cX9_comes 81 = .ok (.iadd, 1) := by decide +kernel
theorem dX9_comes_82 : decode cX9_comes 82 = .ok (.iastore, 1) := by decide +kernel
theorem dX9_comes_83 : decode cX9_comes 83 = .ok (.return_, 1) := by decide +kernel
set_option maxRecDepth 20000 in
theorem ggX9_person_X9_isIn : GoodIn wsX9_person wsX9_isIn := goodIn_r _ [8] (by decide +kernel) (by decide +kernel)
set_option maxRecDepth 20000 in
theorem gX9_person_X9_isIn : GoodIn wsX9_person (va_wsS RX9 60 yX9_isIn wsX9_isIn) := goodIn_app (goodIn_of _ (by decide +kernel)) ggX9_person_X9_isIn
set_option maxRecDepth 20000 in
theorem ggX9_person_X9_comes : GoodIn wsX9_person wsX9_comes := goodIn_r _ [12, 4, 13, 14, 15, 16, 17, 18, 19, 20, 21, 22, 23, 24, 25, 26, 27, 28, 29, 30, 31, 32, 33, 34, 35, 36, 37, 38, 39, 40, 41] (by decide +kernel) (by decide +kernel)
set_option maxRecDepth 20000 in
theorem gX9_person_X9_comes : GoodIn wsX9_person (wsV RX9 122 RX9 yX9_comes wsX9_comes) := goodIn_app (goodIn_of _ (by decide +kernel)) ggX9_person_X9_comes
theorem dX9_person_0 : decode cX9_person 0 = .ok (.iload_n 1, 1) := by decide +kernel
theorem dX9_person_1 : decode cX9_person 1 = .ok (.i2l, 1) := by decide +kernel
theorem dX9_person_2 : decode cX9_person 2 = .ok (.lconst 0, 1) := by decide +kernel
theorem dX9_person_3 : decode cX9_person 3 = .ok (.ldc2_w 170, 3) := by decide +kernel
theorem dX9_person_6 : decode cX9_person 6 = .ok (.invokestatic 60, 3) := by decide +kernel
theorem dX9_person_9 : decode cX9_person 9 = .ok (.ifCond .eq 40, 3) := by decide +kernel
theorem dX9_person_12 : decode cX9_person 12 = .ok (.iload_n 2, 1) := by decide +kernel
theorem dX9_person_13 : decode cX9_person 13 = .ok (.i2l, 1) := by decide +kernel
theorem dX9_person_14 : decode cX9_person 14 = .ok (.lconst 0, 1) := by decide +kernel
theorem dX9_person_15 : decode cX9_person 15 = .ok (.ldc2_w 162, 3) := by decide +kernel
theorem dX9_person_18 : decode cX9_person 18 = .ok (.invokestatic 60, 3) := by decide +kernel
theorem dX9_person_21 : decode cX9_person 21 = .ok (.ifCond .eq 28, 3) := by decide +kernel
theorem dX9_person_24 : decode cX9_person 24 = .ok (.iload_n 3, 1) := by decide +kernel
theorem dX9_person_25 : decode cX9_person 25 = .ok (.i2l, 1) := by decide +kernel
theorem dX9_person_26 : decode cX9_person 26 = .ok (.lconst 0, 1) := by decide +kernel
theorem dX9_person_27 : decode cX9_person 27 = .ok (.ldc2_w 162, 3) := by decide +kernel
theorem dX9_person_30 : decode cX9_person 30 = .ok (.invokestatic 60, 3) := by decide +kernel
theorem dX9_person_33 : decode cX9_person 33 = .ok (.ifCond .eq 16, 3) := by decide +kernel
theorem dX9_person_36 : decode cX9_person 36 = .ok (.iload 4, 2) := by decide +kernel
theorem dX9_person_38 : decode cX9_person 38 = .ok (.i2l, 1) := by decide +kernel
theorem dX9_person_39 : decode cX9_person 39 = .ok (.lconst 0, 1) := by decide +kernel
theorem dX9_person_40 : decode cX9_person 40 = .ok (.ldc2_w 164, 3) := by decide +kernel
theorem dX9_person_43 : decode cX9_person 43 = .ok (.invokestatic 60, 3) := by decide +kernel
theorem dX9_person_46 : decode cX9_person 46 = .ok (.ifCond .ne 5, 3) := by decide +kernel
theorem dX9_person_49 : decode cX9_person 49 = .ok (.iconst (-1), 1) := by decide +kernel
theorem dX9_person_50 : decode cX9_person 50 = .ok (.ireturn, 1) := by decide +kernel
theorem dX9_person_51 : decode cX9_person 51 = .ok (.aload_n 0, 1) := by decide +kernel
theorem dX9_person_52 : decode cX9_person 52 = .ok (.getfield 7, 3) := by decide +kernel
theorem dX9_person_55 : decode cX9_person 55 = .ok (.iconst 0, 1) := by decide +kernel
theorem dX9_person_56 : decode cX9_person 56 = .ok (.iaload, 1) := by decide +kernel
theorem dX9_person_57 : decode cX9_person 57 = .ok (.bipush 8, 2) := by decide +kernel
theorem dX9_person_59 : decode cX9_person 59 = .ok (.if_icmp .ne 6, 3) := by decide +kernel
theorem dX9_person_62 : decode cX9_person 62 = .ok (.bipush (-2), 2) := by decide +kernel
theorem dX9_person_64 : decode cX9_person 64 = .ok (.ireturn, 1) := by decide +kernel
theorem dX9_person_65 : decode cX9_person 65 = .ok (.aload_n 0, 1) := by decide +kernel
theorem dX9_person_66 : decode cX9_person 66 = .ok (.iload_n 1, 1) := by decide +kernel
theorem dX9_person_67 : decode cX9_person 67 = .ok (.iload_n 2, 1) := by decide +kernel
theorem dX9_person_68 : decode cX9_person 68 = .ok (.iload_n 3, 1) := by decide +kernel
theorem dX9_person_69 : decode cX9_person 69 = .ok (.iload 4, 2) := by decide +kernel
theorem dX9_person_71 : decode cX9_person 71 = .ok (.invokevirtual 122, 3) := by decide +kernel
theorem dX9_person_74 : decode cX9_person 74 = .ok (.aload_n 0, 1) := by decide +kernel
theorem dX9_person_75 : decode cX9_person 75 = .ok (.getfield 7, 3) := by decide +kernel
theorem dX9_person_78 : decode cX9_person 78 = .ok (.iconst 0, 1) := by decide +kernel
theorem dX9_person_79 : decode cX9_person 79 = .ok (.iaload, 1) := by decide +kernel
theorem dX9_person_80 : decode cX9_person 80 = .ok (.iconst 1, 1) := by decide +kernel
theorem dX9_person_81 : decode cX9_person 81 = .ok (.isub, 1) := by decide +kernel
theorem dX9_person_82 : decode cX9_person 82 = .ok (.ireturn, 1) := by decide +kernel
set_option maxRecDepth 20000 in
theorem ggX9_saysOf_X9_its : GoodIn wsX9_saysOf wsX9_its := goodIn_r _ [6, 1, 10, 11, 12, 13, 14, 15, 16, 17, 18, 19, 20, 21, 22, 23, 24, 25, 26, 27, 28, 29, 30, 31, 32, 33, 34, 35, 36, 37, 38] (by decide +kernel) (by decide +kernel)
set_option maxRecDepth 20000 in
theorem gX9_saysOf_X9_its : GoodIn wsX9_saysOf (wsV RX9 172 RX9 yX9_its wsX9_its) := goodIn_app (goodIn_of _ (by decide +kernel)) ggX9_saysOf_X9_its
set_option maxRecDepth 20000 in
theorem ggX9_saysOf_X9_greatest : GoodIn wsX9_saysOf wsX9_greatest := goodIn_r _ [9] (by decide +kernel) (by decide +kernel)
set_option maxRecDepth 20000 in
theorem gX9_saysOf_X9_greatest : GoodIn wsX9_saysOf (va_wsS RX9 175 yX9_greatest wsX9_greatest) := goodIn_app (goodIn_of _ (by decide +kernel)) ggX9_saysOf_X9_greatest
theorem dX9_saysOf_0 : decode cX9_saysOf 0 = .ok (.aload_n 0, 1) := by decide +kernel
theorem dX9_saysOf_1 : decode cX9_saysOf 1 = .ok (.iload_n 1, 1) := by decide +kernel
theorem dX9_saysOf_2 : decode cX9_saysOf 2 = .ok (.iconst 3, 1) := by decide +kernel
theorem dX9_saysOf_3 : decode cX9_saysOf 3 = .ok (.invokevirtual 172, 3) := by decide +kernel
theorem dX9_saysOf_6 : decode cX9_saysOf 6 = .ok (.istore_n 2, 1) := by decide +kernel
theorem dX9_saysOf_7 : decode cX9_saysOf 7 = .ok (.iconst 0, 1) := by decide +kernel
theorem dX9_saysOf_8 : decode cX9_saysOf 8 = .ok (.iload_n 2, 1) := by decide +kernel
theorem dX9_saysOf_9 : decode cX9_saysOf 9 = .ok (.aload_n 0, 1) := by decide +kernel
theorem dX9_saysOf_10 : decode cX9_saysOf 10 = .ok (.getfield 7, 3) := by decide +kernel
theorem dX9_saysOf_13 : decode cX9_saysOf 13 = .ok (.bipush 6, 2) := by decide +kernel
theorem dX9_saysOf_15 : decode cX9_saysOf 15 = .ok (.iaload, 1) := by decide +kernel
theorem dX9_saysOf_16 : decode cX9_saysOf 16 = .ok (.isub, 1) := by decide +kernel
theorem dX9_saysOf_17 : decode cX9_saysOf 17 = .ok (.invokestatic 175, 3) := by decide +kernel
theorem dX9_saysOf_20 : decode cX9_saysOf 20 = .ok (.istore_n 3, 1) := by decide +kernel
theorem dX9_saysOf_21 : decode cX9_saysOf 21 = .ok (.aload_n 0, 1) := by decide +kernel
theorem dX9_saysOf_22 : decode cX9_saysOf 22 = .ok (.iload_n 1, 1) := by decide +kernel
theorem dX9_saysOf_23 : decode cX9_saysOf 23 = .ok (.iconst 0, 1) := by decide +kernel
theorem dX9_saysOf_24 : decode cX9_saysOf 24 = .ok (.invokevirtual 172, 3) := by decide +kernel
theorem dX9_saysOf_27 : decode cX9_saysOf 27 = .ok (.tableswitch 84 1 5 #[33, 42, 44, 55, 67], 33) := by decide +kernel
theorem dX9_saysOf_60 : decode cX9_saysOf 60 = .ok (.iload_n 2, 1) := by decide +kernel
theorem dX9_saysOf_61 : decode cX9_saysOf 61 = .ok (.aload_n 0, 1) := by decide +kernel
theorem dX9_saysOf_62 : decode cX9_saysOf 62 = .ok (.getfield 7, 3) := by decide +kernel
theorem dX9_saysOf_65 : decode cX9_saysOf 65 = .ok (.iconst 5, 1) := by decide +kernel
theorem dX9_saysOf_66 : decode cX9_saysOf 66 = .ok (.iaload, 1) := by decide +kernel
theorem dX9_saysOf_67 : decode cX9_saysOf 67 = .ok (.iadd, 1) := by decide +kernel
theorem dX9_saysOf_68 : decode cX9_saysOf 68 = .ok (.ireturn, 1) := by decide +kernel
theorem dX9_saysOf_69 : decode cX9_saysOf 69 = .ok (.iload_n 3, 1) := by decide +kernel
theorem dX9_saysOf_70 : decode cX9_saysOf 70 = .ok (.ireturn, 1) := by decide +kernel
theorem dX9_saysOf_71 : decode cX9_saysOf 71 = .ok (.iconst 2, 1) := by decide +kernel
theorem dX9_saysOf_72 : decode cX9_saysOf 72 = .ok (.iload_n 2, 1) := by decide +kernel
theorem dX9_saysOf_73 : decode cX9_saysOf 73 = .ok (.aload_n 0, 1) := by decide +kernel
theorem dX9_saysOf_74 : decode cX9_saysOf 74 = .ok (.getfield 7, 3) := by decide +kernel
theorem dX9_saysOf_77 : decode cX9_saysOf 77 = .ok (.iconst 5, 1) := by decide +kernel
theorem dX9_saysOf_78 : decode cX9_saysOf 78 = .ok (.iaload, 1) := by decide +kernel
theorem dX9_saysOf_79 : decode cX9_saysOf 79 = .ok (.iadd, 1) := by decide +kernel
theorem dX9_saysOf_80 : decode cX9_saysOf 80 = .ok (.imul, 1) := by decide +kernel
theorem dX9_saysOf_81 : decode cX9_saysOf 81 = .ok (.ireturn, 1) := by decide +kernel
theorem dX9_saysOf_82 : decode cX9_saysOf 82 = .ok (.iload_n 3, 1) := by decide +kernel
theorem dX9_saysOf_83 : decode cX9_saysOf 83 = .ok (.aload_n 0, 1) := by decide +kernel
theorem dX9_saysOf_84 : decode cX9_saysOf 84 = .ok (.iload_n 1, 1) := by decide +kernel
theorem dX9_saysOf_85 : decode cX9_saysOf 85 = .ok (.iconst 2, 1) := by decide +kernel
theorem dX9_saysOf_86 : decode cX9_saysOf 86 = .ok (.invokevirtual 172, 3) := by decide +kernel
theorem dX9_saysOf_89 : decode cX9_saysOf 89 = .ok (.bipush 10, 2) := by decide +kernel
theorem dX9_saysOf_91 : decode cX9_saysOf 91 = .ok (.idiv, 1) := by decide +kernel
theorem dX9_saysOf_92 : decode cX9_saysOf 92 = .ok (.iadd, 1) := by decide +kernel
theorem dX9_saysOf_93 : decode cX9_saysOf 93 = .ok (.ireturn, 1) := by decide +kernel
theorem dX9_saysOf_94 : decode cX9_saysOf 94 = .ok (.aload_n 0, 1) := by decide +kernel
theorem dX9_saysOf_95 : decode cX9_saysOf 95 = .ok (.getfield 7, 3) := by decide +kernel
theorem dX9_saysOf_98 : decode cX9_saysOf 98 = .ok (.iconst 1, 1) := by decide +kernel
theorem dX9_saysOf_99 : decode cX9_saysOf 99 = .ok (.iaload, 1) := by decide +kernel
theorem dX9_saysOf_100 : decode cX9_saysOf 100 = .ok (.iconst 2, 1) := by decide +kernel
theorem dX9_saysOf_101 : decode cX9_saysOf 101 = .ok (.irem, 1) := by decide +kernel
theorem dX9_saysOf_102 : decode cX9_saysOf 102 = .ok (.ifCond .ne 7, 3) := by decide +kernel
theorem dX9_saysOf_105 : decode cX9_saysOf 105 = .ok (.iload_n 2, 1) := by decide +kernel
theorem dX9_saysOf_106 : decode cX9_saysOf 106 = .ok (.goto 4, 3) := by decide +kernel
theorem dX9_saysOf_109 : decode cX9_saysOf 109 = .ok (.iconst 1, 1) := by decide +kernel
theorem dX9_saysOf_110 : decode cX9_saysOf 110 = .ok (.ireturn, 1) := by decide +kernel
theorem dX9_saysOf_111 : decode cX9_saysOf 111 = .ok (.iload_n 2, 1) := by decide +kernel
theorem dX9_saysOf_112 : decode cX9_saysOf 112 = .ok (.ireturn, 1) := by decide +kernel
set_option maxRecDepth 20000 in
theorem ggX9_growsOf_X9_its : GoodIn wsX9_growsOf wsX9_its := goodIn_r _ [6, 1, 7, 8, 9, 10, 11, 12, 13, 14, 15, 16, 17, 18, 19, 20, 21, 22, 23, 24, 25, 26, 27, 28, 29, 30, 31, 32, 33, 34, 35] (by decide +kernel) (by decide +kernel)
set_option maxRecDepth 20000 in
theorem gX9_growsOf_X9_its : GoodIn wsX9_growsOf (wsV RX9 172 RX9 yX9_its wsX9_its) := goodIn_app (goodIn_of _ (by decide +kernel)) ggX9_growsOf_X9_its
theorem dX9_growsOf_0 : decode cX9_growsOf 0 = .ok (.aload_n 0, 1) := by decide +kernel
theorem dX9_growsOf_1 : decode cX9_growsOf 1 = .ok (.getfield 7, 3) := by decide +kernel
theorem dX9_growsOf_4 : decode cX9_growsOf 4 = .ok (.bipush 7, 2) := by decide +kernel
theorem dX9_growsOf_6 : decode cX9_growsOf 6 = .ok (.iaload, 1) := by decide +kernel
theorem dX9_growsOf_7 : decode cX9_growsOf 7 = .ok (.istore_n 2, 1) := by decide +kernel
theorem dX9_growsOf_8 : decode cX9_growsOf 8 = .ok (.aload_n 0, 1) := by decide +kernel
theorem dX9_growsOf_9 : decode cX9_growsOf 9 = .ok (.iload_n 1, 1) := by decide +kernel
theorem dX9_growsOf_10 : decode cX9_growsOf 10 = .ok (.iconst 0, 1) := by decide +kernel
theorem dX9_growsOf_11 : decode cX9_growsOf 11 = .ok (.invokevirtual 172, 3) := by decide +kernel
theorem dX9_growsOf_14 : decode cX9_growsOf 14 = .ok (.tableswitch 68 1 5 #[34, 38, 42, 53, 59], 34) := by decide +kernel
theorem dX9_growsOf_48 : decode cX9_growsOf 48 = .ok (.iload_n 2, 1) := by decide +kernel
theorem dX9_growsOf_49 : decode cX9_growsOf 49 = .ok (.iconst 1, 1) := by decide +kernel
theorem dX9_growsOf_50 : decode cX9_growsOf 50 = .ok (.iadd, 1) := by decide +kernel
theorem dX9_growsOf_51 : decode cX9_growsOf 51 = .ok (.ireturn, 1) := by decide +kernel
theorem dX9_growsOf_52 : decode cX9_growsOf 52 = .ok (.iload_n 2, 1) := by decide +kernel
theorem dX9_growsOf_53 : decode cX9_growsOf 53 = .ok (.iconst 2, 1) := by decide +kernel
theorem dX9_growsOf_54 : decode cX9_growsOf 54 = .ok (.idiv, 1) := by decide +kernel
theorem dX9_growsOf_55 : decode cX9_growsOf 55 = .ok (.ireturn, 1) := by decide +kernel
theorem dX9_growsOf_56 : decode cX9_growsOf 56 = .ok (.iload_n 2, 1) := by decide +kernel
theorem dX9_growsOf_57 : decode cX9_growsOf 57 = .ok (.iconst 1, 1) := by decide +kernel
theorem dX9_growsOf_58 : decode cX9_growsOf 58 = .ok (.iadd, 1) := by decide +kernel
theorem dX9_growsOf_59 : decode cX9_growsOf 59 = .ok (.aload_n 0, 1) := by decide +kernel
theorem dX9_growsOf_60 : decode cX9_growsOf 60 = .ok (.getfield 7, 3) := by decide +kernel
theorem dX9_growsOf_63 : decode cX9_growsOf 63 = .ok (.iconst 5, 1) := by decide +kernel
theorem dX9_growsOf_64 : decode cX9_growsOf 64 = .ok (.iaload, 1) := by decide +kernel
theorem dX9_growsOf_65 : decode cX9_growsOf 65 = .ok (.iadd, 1) := by decide +kernel
theorem dX9_growsOf_66 : decode cX9_growsOf 66 = .ok (.ireturn, 1) := by decide +kernel
theorem dX9_growsOf_67 : decode cX9_growsOf 67 = .ok (.iload_n 2, 1) := by decide +kernel
theorem dX9_growsOf_68 : decode cX9_growsOf 68 = .ok (.iconst 2, 1) := by decide +kernel
theorem dX9_growsOf_69 : decode cX9_growsOf 69 = .ok (.idiv, 1) := by decide +kernel
theorem dX9_growsOf_70 : decode cX9_growsOf 70 = .ok (.iconst 2, 1) := by decide +kernel
theorem dX9_growsOf_71 : decode cX9_growsOf 71 = .ok (.isub, 1) := by decide +kernel
theorem dX9_growsOf_72 : decode cX9_growsOf 72 = .ok (.ireturn, 1) := by decide +kernel
theorem dX9_growsOf_73 : decode cX9_growsOf 73 = .ok (.iload_n 2, 1) := by decide +kernel
theorem dX9_growsOf_74 : decode cX9_growsOf 74 = .ok (.aload_n 0, 1) := by decide +kernel
theorem dX9_growsOf_75 : decode cX9_growsOf 75 = .ok (.iload_n 1, 1) := by decide +kernel
theorem dX9_growsOf_76 : decode cX9_growsOf 76 = .ok (.iconst 3, 1) := by decide +kernel
theorem dX9_growsOf_77 : decode cX9_growsOf 77 = .ok (.invokevirtual 172, 3) := by decide +kernel
theorem dX9_growsOf_80 : decode cX9_growsOf 80 = .ok (.iadd, 1) := by decide +kernel
theorem dX9_growsOf_81 : decode cX9_growsOf 81 = .ok (.ireturn, 1) := by decide +kernel
theorem dX9_growsOf_82 : decode cX9_growsOf 82 = .ok (.iload_n 2, 1) := by decide +kernel
theorem dX9_growsOf_83 : decode cX9_growsOf 83 = .ok (.ireturn, 1) := by decide +kernel
set_option maxRecDepth 20000 in
theorem ggX9_savesOf_X9_its : GoodIn wsX9_savesOf wsX9_its := goodIn_r _ [6, 1, 7, 8, 9, 10, 11, 12, 13, 14, 15, 16, 17, 18, 19, 20, 21, 22, 23, 24, 25, 26, 27, 28, 29, 30, 31, 32, 33, 34, 35] (by decide +kernel) (by decide +kernel)
set_option maxRecDepth 20000 in
theorem gX9_savesOf_X9_its : GoodIn wsX9_savesOf (wsV RX9 172 RX9 yX9_its wsX9_its) := goodIn_app (goodIn_of _ (by decide +kernel)) ggX9_savesOf_X9_its
theorem dX9_savesOf_0 : decode cX9_savesOf 0 = .ok (.aload_n 0, 1) := by decide +kernel
theorem dX9_savesOf_1 : decode cX9_savesOf 1 = .ok (.iload_n 1, 1) := by decide +kernel
theorem dX9_savesOf_2 : decode cX9_savesOf 2 = .ok (.iconst 0, 1) := by decide +kernel
theorem dX9_savesOf_3 : decode cX9_savesOf 3 = .ok (.invokevirtual 172, 3) := by decide +kernel
theorem dX9_savesOf_6 : decode cX9_savesOf 6 = .ok (.tableswitch 76 1 5 #[34, 36, 34, 46, 58], 34) := by decide +kernel
theorem dX9_savesOf_40 : decode cX9_savesOf 40 = .ok (.iconst 0, 1) := by decide +kernel
theorem dX9_savesOf_41 : decode cX9_savesOf 41 = .ok (.ireturn, 1) := by decide +kernel
theorem dX9_savesOf_42 : decode cX9_savesOf 42 = .ok (.iconst 1, 1) := by decide +kernel
theorem dX9_savesOf_43 : decode cX9_savesOf 43 = .ok (.aload_n 0, 1) := by decide +kernel
theorem dX9_savesOf_44 : decode cX9_savesOf 44 = .ok (.getfield 7, 3) := by decide +kernel
theorem dX9_savesOf_47 : decode cX9_savesOf 47 = .ok (.bipush 6, 2) := by decide +kernel
theorem dX9_savesOf_49 : decode cX9_savesOf 49 = .ok (.iaload, 1) := by decide +kernel
theorem dX9_savesOf_50 : decode cX9_savesOf 50 = .ok (.iadd, 1) := by decide +kernel
theorem dX9_savesOf_51 : decode cX9_savesOf 51 = .ok (.ireturn, 1) := by decide +kernel
theorem dX9_savesOf_52 : decode cX9_savesOf 52 = .ok (.iconst 3, 1) := by decide +kernel
theorem dX9_savesOf_53 : decode cX9_savesOf 53 = .ok (.iconst 1, 1) := by decide +kernel
theorem dX9_savesOf_54 : decode cX9_savesOf 54 = .ok (.aload_n 0, 1) := by decide +kernel
theorem dX9_savesOf_55 : decode cX9_savesOf 55 = .ok (.getfield 7, 3) := by decide +kernel
theorem dX9_savesOf_58 : decode cX9_savesOf 58 = .ok (.bipush 6, 2) := by decide +kernel
theorem dX9_savesOf_60 : decode cX9_savesOf 60 = .ok (.iaload, 1) := by decide +kernel
theorem dX9_savesOf_61 : decode cX9_savesOf 61 = .ok (.iadd, 1) := by decide +kernel
theorem dX9_savesOf_62 : decode cX9_savesOf 62 = .ok (.imul, 1) := by decide +kernel
theorem dX9_savesOf_63 : decode cX9_savesOf 63 = .ok (.ireturn, 1) := by decide +kernel
theorem dX9_savesOf_64 : decode cX9_savesOf 64 = .ok (.aload_n 0, 1) := by decide +kernel
theorem dX9_savesOf_65 : decode cX9_savesOf 65 = .ok (.getfield 7, 3) := by decide +kernel
theorem dX9_savesOf_68 : decode cX9_savesOf 68 = .ok (.iconst 1, 1) := by decide +kernel
theorem dX9_savesOf_69 : decode cX9_savesOf 69 = .ok (.iaload, 1) := by decide +kernel
theorem dX9_savesOf_70 : decode cX9_savesOf 70 = .ok (.bipush 7, 2) := by decide +kernel
theorem dX9_savesOf_72 : decode cX9_savesOf 72 = .ok (.irem, 1) := by decide +kernel
theorem dX9_savesOf_73 : decode cX9_savesOf 73 = .ok (.ifCond .ne 7, 3) := by decide +kernel
theorem dX9_savesOf_76 : decode cX9_savesOf 76 = .ok (.iconst 1, 1) := by decide +kernel
theorem dX9_savesOf_77 : decode cX9_savesOf 77 = .ok (.goto 4, 3) := by decide +kernel
theorem dX9_savesOf_80 : decode cX9_savesOf 80 = .ok (.iconst 0, 1) := by decide +kernel
theorem dX9_savesOf_81 : decode cX9_savesOf 81 = .ok (.ireturn, 1) := by decide +kernel
theorem dX9_savesOf_82 : decode cX9_savesOf 82 = .ok (.iconst 1, 1) := by decide +kernel
theorem dX9_savesOf_83 : decode cX9_savesOf 83 = .ok (.ireturn, 1) := by decide +kernel
set_option maxRecDepth 20000 in
theorem ggX9_of_X9_isOne : GoodIn wsX9_of wsX9_isOne := goodIn_r _ [6, 7, 15, 16, 17, 18, 19, 20, 21, 22, 23, 24, 25, 26, 27, 28, 29, 30, 31, 32, 33, 34, 35, 36, 37, 38, 39, 40, 41, 42, 43] (by decide +kernel) (by decide +kernel)
set_option maxRecDepth 20000 in
theorem gX9_of_X9_isOne : GoodIn wsX9_of (wsV RX9 130 RX9 yX9_isOne wsX9_isOne) := goodIn_app (goodIn_of _ (by decide +kernel)) ggX9_of_X9_isOne
set_option maxRecDepth 20000 in
theorem ggX9_of_X9_isIn : GoodIn wsX9_of wsX9_isIn := goodIn_r _ [10] (by decide +kernel) (by decide +kernel)
set_option maxRecDepth 20000 in
theorem gX9_of_X9_isIn : GoodIn wsX9_of (va_wsS RX9 60 yX9_isIn wsX9_isIn) := goodIn_app (goodIn_of _ (by decide +kernel)) ggX9_of_X9_isIn
set_option maxRecDepth 20000 in
theorem ggX9_of_X9_its : GoodIn wsX9_of wsX9_its := goodIn_r _ [14, 7, 15, 16, 17, 18, 19, 20, 21, 22, 23, 24, 25, 26, 27, 28, 29, 30, 31, 32, 33, 34, 35, 36, 37, 38, 39, 40, 41, 42, 43] (by decide +kernel) (by decide +kernel)
set_option maxRecDepth 20000 in
theorem gX9_of_X9_its : GoodIn wsX9_of (wsV RX9 172 RX9 yX9_its wsX9_its) := goodIn_app (goodIn_of _ (by decide +kernel)) ggX9_of_X9_its
theorem dX9_of_0 : decode cX9_of 0 = .ok (.aload_n 0, 1) := by decide +kernel
theorem dX9_of_1 : decode cX9_of 1 = .ok (.iload_n 1, 1) := by decide +kernel
theorem dX9_of_2 : decode cX9_of 2 = .ok (.invokevirtual 130, 3) := by decide +kernel
theorem dX9_of_5 : decode cX9_of 5 = .ok (.ifCond .eq 24, 3) := by decide +kernel
theorem dX9_of_8 : decode cX9_of 8 = .ok (.iload_n 2, 1) := by decide +kernel
theorem dX9_of_9 : decode cX9_of 9 = .ok (.i2l, 1) := by decide +kernel
theorem dX9_of_10 : decode cX9_of 10 = .ok (.lconst 0, 1) := by decide +kernel
theorem dX9_of_11 : decode cX9_of 11 = .ok (.ldc2_w 170, 3) := by decide +kernel
theorem dX9_of_14 : decode cX9_of 14 = .ok (.invokestatic 60, 3) := by decide +kernel
theorem dX9_of_17 : decode cX9_of 17 = .ok (.ifCond .eq 12, 3) := by decide +kernel
theorem dX9_of_20 : decode cX9_of 20 = .ok (.aload_n 0, 1) := by decide +kernel
theorem dX9_of_21 : decode cX9_of 21 = .ok (.iload_n 1, 1) := by decide +kernel
theorem dX9_of_22 : decode cX9_of 22 = .ok (.iload_n 2, 1) := by decide +kernel
theorem dX9_of_23 : decode cX9_of 23 = .ok (.invokevirtual 172, 3) := by decide +kernel
theorem dX9_of_26 : decode cX9_of 26 = .ok (.goto 4, 3) := by decide +kernel
theorem dX9_of_29 : decode cX9_of 29 = .ok (.iconst (-1), 1) := by decide +kernel
theorem dX9_of_30 : decode cX9_of 30 = .ok (.ireturn, 1) := by decide +kernel
set_option maxRecDepth 20000 in
theorem ggX9_does_X9_isOne : GoodIn wsX9_does wsX9_isOne := goodIn_r _ [6, 7, 30, 31, 32, 33, 34, 35, 36, 37, 38, 39, 40, 41, 42, 43, 44, 45, 46, 47, 48, 49, 50, 51, 52, 53, 54, 55, 56, 57, 58] (by decide +kernel) (by decide +kernel)
set_option maxRecDepth 20000 in
theorem gX9_does_X9_isOne : GoodIn wsX9_does (wsV RX9 130 RX9 yX9_isOne wsX9_isOne) := goodIn_app (goodIn_of _ (by decide +kernel)) ggX9_does_X9_isOne
set_option maxRecDepth 20000 in
theorem ggX9_does_X9_isIn : GoodIn wsX9_does wsX9_isIn := goodIn_r _ [10] (by decide +kernel) (by decide +kernel)
set_option maxRecDepth 20000 in
theorem gX9_does_X9_isIn : GoodIn wsX9_does (va_wsS RX9 60 yX9_isIn wsX9_isIn) := goodIn_app (goodIn_of _ (by decide +kernel)) ggX9_does_X9_isIn
set_option maxRecDepth 20000 in
theorem ggX9_does_X9_saysOf : GoodIn wsX9_does wsX9_saysOf := goodIn_r _ [14, 7, 15, 16, 17, 5, 18, 19, 20, 21, 30, 31, 32, 33, 34, 35, 36, 37, 38, 39, 40, 41, 42, 43, 44, 45, 46, 47, 48, 49, 50, 51, 52, 53, 54, 55, 56, 57, 58] (by decide +kernel) (by decide +kernel)
set_option maxRecDepth 20000 in
theorem gX9_does_X9_saysOf : GoodIn wsX9_does (wsV RX9 180 RX9 yX9_saysOf wsX9_saysOf) := goodIn_app (goodIn_of _ (by decide +kernel)) ggX9_does_X9_saysOf
set_option maxRecDepth 20000 in
theorem ggX9_does_X9_growsOf : GoodIn wsX9_does wsX9_growsOf := goodIn_r _ [25, 7, 15, 16, 17, 5, 18, 30, 31, 32, 33, 34, 35, 36, 37, 38, 39, 40, 41, 42, 43, 44, 45, 46, 47, 48, 49, 50, 51, 52, 53, 54, 55, 56, 57, 58] (by decide +kernel) (by decide +kernel)
set_option maxRecDepth 20000 in
theorem gX9_does_X9_growsOf : GoodIn wsX9_does (wsV RX9 183 RX9 yX9_growsOf wsX9_growsOf) := goodIn_app (goodIn_of _ (by decide +kernel)) ggX9_does_X9_growsOf
set_option maxRecDepth 20000 in
theorem ggX9_does_X9_savesOf : GoodIn wsX9_does wsX9_savesOf := goodIn_r _ [29, 7, 15, 16, 17, 5, 18, 30, 31, 32, 33, 34, 35, 36, 37, 38, 39, 40, 41, 42, 43, 44, 45, 46, 47, 48, 49, 50, 51, 52, 53, 54, 55, 56, 57, 58] (by decide +kernel) (by decide +kernel)
set_option maxRecDepth 20000 in
theorem gX9_does_X9_savesOf : GoodIn wsX9_does (wsV RX9 186 RX9 yX9_savesOf wsX9_savesOf) := goodIn_app (goodIn_of _ (by decide +kernel)) ggX9_does_X9_savesOf
theorem dX9_does_0 : decode cX9_does 0 = .ok (.aload_n 0, 1) := by decide +kernel
theorem dX9_does_1 : decode cX9_does 1 = .ok (.iload_n 1, 1) := by decide +kernel
theorem dX9_does_2 : decode cX9_does 2 = .ok (.invokevirtual 130, 3) := by decide +kernel
theorem dX9_does_5 : decode cX9_does 5 = .ok (.ifCond .eq 15, 3) := by decide +kernel
theorem dX9_does_8 : decode cX9_does 8 = .ok (.iload_n 2, 1) := by decide +kernel
theorem dX9_does_9 : decode cX9_does 9 = .ok (.i2l, 1) := by decide +kernel
theorem dX9_does_10 : decode cX9_does 10 = .ok (.lconst 0, 1) := by decide +kernel
theorem dX9_does_11 : decode cX9_does 11 = .ok (.ldc2_w 178, 3) := by decide +kernel
theorem dX9_does_14 : decode cX9_does 14 = .ok (.invokestatic 60, 3) := by decide +kernel
theorem dX9_does_17 : decode cX9_does 17 = .ok (.ifCond .ne 5, 3) := by decide +kernel
theorem dX9_does_20 : decode cX9_does 20 = .ok (.iconst (-1), 1) := by decide +kernel
theorem dX9_does_21 : decode cX9_does 21 = .ok (.ireturn, 1) := by decide +kernel
theorem dX9_does_22 : decode cX9_does 22 = .ok (.sipush 1000, 3) := by decide +kernel
theorem dX9_does_25 : decode cX9_does 25 = .ok (.iload_n 2, 1) := by decide +kernel
theorem dX9_does_26 : decode cX9_does 26 = .ok (.ifCond .ne 11, 3) := by decide +kernel
theorem dX9_does_29 : decode cX9_does 29 = .ok (.aload_n 0, 1) := by decide +kernel
theorem dX9_does_30 : decode cX9_does 30 = .ok (.iload_n 1, 1) := by decide +kernel
theorem dX9_does_31 : decode cX9_does 31 = .ok (.invokevirtual 180, 3) := by decide +kernel
theorem dX9_does_34 : decode cX9_does 34 = .ok (.goto 21, 3) := by decide +kernel
theorem dX9_does_37 : decode cX9_does 37 = .ok (.iload_n 2, 1) := by decide +kernel
theorem dX9_does_38 : decode cX9_does 38 = .ok (.iconst 1, 1) := by decide +kernel
theorem dX9_does_39 : decode cX9_does 39 = .ok (.if_icmp .ne 11, 3) := by decide +kernel
theorem dX9_does_42 : decode cX9_does 42 = .ok (.aload_n 0, 1) := by decide +kernel
theorem dX9_does_43 : decode cX9_does 43 = .ok (.iload_n 1, 1) := by decide +kernel
theorem dX9_does_44 : decode cX9_does 44 = .ok (.invokevirtual 183, 3) := by decide +kernel
theorem dX9_does_47 : decode cX9_does 47 = .ok (.goto 8, 3) := by decide +kernel
theorem dX9_does_50 : decode cX9_does 50 = .ok (.aload_n 0, 1) := by decide +kernel
theorem dX9_does_51 : decode cX9_does 51 = .ok (.iload_n 1, 1) := by decide +kernel
theorem dX9_does_52 : decode cX9_does 52 = .ok (.invokevirtual 186, 3) := by decide +kernel
theorem dX9_does_55 : decode cX9_does 55 = .ok (.iadd, 1) := by decide +kernel
theorem dX9_does_56 : decode cX9_does 56 = .ok (.ireturn, 1) := by decide +kernel
set_option maxRecDepth 20000 in
theorem ggX9_mind_X9_isOne : GoodIn wsX9_mind wsX9_isOne := goodIn_r _ [8, 3, 16, 17, 18, 19, 20, 21, 22, 23, 24, 25, 26, 27, 28, 29, 30, 31, 32, 33, 34, 35, 36, 37, 38, 39, 40, 41, 42, 43, 44] (by decide +kernel) (by decide +kernel)
set_option maxRecDepth 20000 in
theorem gX9_mind_X9_isOne : GoodIn wsX9_mind (wsV RX9 130 RX9 yX9_isOne wsX9_isOne) := goodIn_app (goodIn_of _ (by decide +kernel)) ggX9_mind_X9_isOne
set_option maxRecDepth 20000 in
theorem ggX9_mind_X9_isIn : GoodIn wsX9_mind wsX9_isIn := goodIn_r _ [11] (by decide +kernel) (by decide +kernel)
set_option maxRecDepth 20000 in
theorem gX9_mind_X9_isIn : GoodIn wsX9_mind (va_wsS RX9 60 yX9_isIn wsX9_isIn) := goodIn_app (goodIn_of _ (by decide +kernel)) ggX9_mind_X9_isIn
set_option maxRecDepth 20000 in
theorem ggX9_mind_X9_becomes : GoodIn wsX9_mind wsX9_becomes := goodIn_r _ [15, 3, 16, 17, 18, 19, 20, 21, 22, 23, 24, 25, 26, 27, 28, 29, 30, 31, 32, 33, 34, 35, 36, 37, 38, 39, 40, 41, 42, 43, 44] (by decide +kernel) (by decide +kernel)
set_option maxRecDepth 20000 in
theorem gX9_mind_X9_becomes : GoodIn wsX9_mind (wsV RX9 166 RX9 yX9_becomes wsX9_becomes) := goodIn_app (goodIn_of _ (by decide +kernel)) ggX9_mind_X9_becomes
theorem dX9_mind_0 : decode cX9_mind 0 = .ok (.aload_n 0, 1) := by decide +kernel
theorem dX9_mind_1 : decode cX9_mind 1 = .ok (.iload_n 1, 1) := by decide +kernel
theorem dX9_mind_2 : decode cX9_mind 2 = .ok (.invokevirtual 130, 3) := by decide +kernel
theorem dX9_mind_5 : decode cX9_mind 5 = .ok (.ifCond .eq 27, 3) := by decide +kernel
theorem dX9_mind_8 : decode cX9_mind 8 = .ok (.iload_n 2, 1) := by decide +kernel
theorem dX9_mind_9 : decode cX9_mind 9 = .ok (.i2l, 1) := by decide +kernel
theorem dX9_mind_10 : decode cX9_mind 10 = .ok (.lconst 0, 1) := by decide +kernel
theorem dX9_mind_11 : decode cX9_mind 11 = .ok (.ldc2_w 170, 3) := by decide +kernel
theorem dX9_mind_14 : decode cX9_mind 14 = .ok (.invokestatic 60, 3) := by decide +kernel
theorem dX9_mind_17 : decode cX9_mind 17 = .ok (.ifCond .eq 15, 3) := by decide +kernel
theorem dX9_mind_20 : decode cX9_mind 20 = .ok (.iload_n 3, 1) := by decide +kernel
theorem dX9_mind_21 : decode cX9_mind 21 = .ok (.i2l, 1) := by decide +kernel
theorem dX9_mind_22 : decode cX9_mind 22 = .ok (.lconst 0, 1) := by decide +kernel
theorem dX9_mind_23 : decode cX9_mind 23 = .ok (.ldc2_w 164, 3) := by decide +kernel
theorem dX9_mind_26 : decode cX9_mind 26 = .ok (.invokestatic 60, 3) := by decide +kernel
theorem dX9_mind_29 : decode cX9_mind 29 = .ok (.ifCond .ne 5, 3) := by decide +kernel
theorem dX9_mind_32 : decode cX9_mind 32 = .ok (.iconst (-1), 1) := by decide +kernel
theorem dX9_mind_33 : decode cX9_mind 33 = .ok (.ireturn, 1) := by decide +kernel
theorem dX9_mind_34 : decode cX9_mind 34 = .ok (.aload_n 0, 1) := by decide +kernel
theorem dX9_mind_35 : decode cX9_mind 35 = .ok (.getfield 7, 3) := by decide +kernel
theorem dX9_mind_38 : decode cX9_mind 38 = .ok (.bipush 9, 2) := by decide +kernel
theorem dX9_mind_40 : decode cX9_mind 40 = .ok (.bipush 6, 2) := by decide +kernel
theorem dX9_mind_42 : decode cX9_mind 42 = .ok (.iload_n 1, 1) := by decide +kernel
theorem dX9_mind_43 : decode cX9_mind 43 = .ok (.imul, 1) := by decide +kernel
theorem dX9_mind_44 : decode cX9_mind 44 = .ok (.iadd, 1) := by decide +kernel
theorem dX9_mind_45 : decode cX9_mind 45 = .ok (.iconst 3, 1) := by decide +kernel
theorem dX9_mind_46 : decode cX9_mind 46 = .ok (.iadd, 1) := by decide +kernel
theorem dX9_mind_47 : decode cX9_mind 47 = .ok (.iload_n 3, 1) := by decide +kernel
theorem dX9_mind_48 : decode cX9_mind 48 = .ok (.iastore, 1) := by decide +kernel
theorem dX9_mind_49 : decode cX9_mind 49 = .ok (.aload_n 0, 1) := by decide +kernel
theorem dX9_mind_50 : decode cX9_mind 50 = .ok (.bipush 9, 2) := by decide +kernel
theorem dX9_mind_52 : decode cX9_mind 52 = .ok (.bipush 6, 2) := by decide +kernel
theorem dX9_mind_54 : decode cX9_mind 54 = .ok (.iload_n 1, 1) := by decide +kernel
theorem dX9_mind_55 : decode cX9_mind 55 = .ok (.imul, 1) := by decide +kernel
theorem dX9_mind_56 : decode cX9_mind 56 = .ok (.iadd, 1) := by decide +kernel
theorem dX9_mind_57 : decode cX9_mind 57 = .ok (.iload_n 2, 1) := by decide +kernel
theorem dX9_mind_58 : decode cX9_mind 58 = .ok (.invokevirtual 166, 3) := by decide +kernel
theorem dX9_mind_61 : decode cX9_mind 61 = .ok (.ireturn, 1) := by decide +kernel
set_option maxRecDepth 20000 in
theorem ggX9_change_X9_isOne : GoodIn wsX9_change wsX9_isOne := goodIn_r _ [7, 8, 16, 17, 18, 19, 20, 21, 22, 23, 24, 25, 26, 27, 28, 29, 30, 31, 32, 33, 34, 35, 36, 37, 38, 39, 40, 41, 42, 43, 44] (by decide +kernel) (by decide +kernel)
set_option maxRecDepth 20000 in
theorem gX9_change_X9_isOne : GoodIn wsX9_change (wsV RX9 130 RX9 yX9_isOne wsX9_isOne) := goodIn_app (goodIn_of _ (by decide +kernel)) ggX9_change_X9_isOne
set_option maxRecDepth 20000 in
theorem ggX9_change_X9_isIn : GoodIn wsX9_change wsX9_isIn := goodIn_r _ [11] (by decide +kernel) (by decide +kernel)
set_option maxRecDepth 20000 in
theorem gX9_change_X9_isIn : GoodIn wsX9_change (va_wsS RX9 60 yX9_isIn wsX9_isIn) := goodIn_app (goodIn_of _ (by decide +kernel)) ggX9_change_X9_isIn
set_option maxRecDepth 20000 in
theorem ggX9_change_X9_becomes : GoodIn wsX9_change wsX9_becomes := goodIn_r _ [15, 8, 16, 17, 18, 19, 20, 21, 22, 23, 24, 25, 26, 27, 28, 29, 30, 31, 32, 33, 34, 35, 36, 37, 38, 39, 40, 41, 42, 43, 44] (by decide +kernel) (by decide +kernel)
set_option maxRecDepth 20000 in
theorem gX9_change_X9_becomes : GoodIn wsX9_change (wsV RX9 166 RX9 yX9_becomes wsX9_becomes) := goodIn_app (goodIn_of _ (by decide +kernel)) ggX9_change_X9_becomes
theorem dX9_change_0 : decode cX9_change 0 = .ok (.aload_n 0, 1) := by decide +kernel
theorem dX9_change_1 : decode cX9_change 1 = .ok (.iload_n 1, 1) := by decide +kernel
theorem dX9_change_2 : decode cX9_change 2 = .ok (.invokevirtual 130, 3) := by decide +kernel
theorem dX9_change_5 : decode cX9_change 5 = .ok (.ifCond .eq 44, 3) := by decide +kernel
theorem dX9_change_8 : decode cX9_change 8 = .ok (.iload_n 2, 1) := by decide +kernel
theorem dX9_change_9 : decode cX9_change 9 = .ok (.i2l, 1) := by decide +kernel
theorem dX9_change_10 : decode cX9_change 10 = .ok (.lconst 1, 1) := by decide +kernel
theorem dX9_change_11 : decode cX9_change 11 = .ok (.ldc2_w 178, 3) := by decide +kernel
theorem dX9_change_14 : decode cX9_change 14 = .ok (.invokestatic 60, 3) := by decide +kernel
theorem dX9_change_17 : decode cX9_change 17 = .ok (.ifCond .eq 32, 3) := by decide +kernel
theorem dX9_change_20 : decode cX9_change 20 = .ok (.iload_n 3, 1) := by decide +kernel
theorem dX9_change_21 : decode cX9_change 21 = .ok (.i2l, 1) := by decide +kernel
theorem dX9_change_22 : decode cX9_change 22 = .ok (.lconst 0, 1) := by decide +kernel
theorem dX9_change_23 : decode cX9_change 23 = .ok (.ldc2_w 162, 3) := by decide +kernel
theorem dX9_change_26 : decode cX9_change 26 = .ok (.invokestatic 60, 3) := by decide +kernel
theorem dX9_change_29 : decode cX9_change 29 = .ok (.ifCond .eq 20, 3) := by decide +kernel
theorem dX9_change_32 : decode cX9_change 32 = .ok (.aload_n 0, 1) := by decide +kernel
theorem dX9_change_33 : decode cX9_change 33 = .ok (.bipush 9, 2) := by decide +kernel
theorem dX9_change_35 : decode cX9_change 35 = .ok (.bipush 6, 2) := by decide +kernel
theorem dX9_change_37 : decode cX9_change 37 = .ok (.iload_n 1, 1) := by decide +kernel
theorem dX9_change_38 : decode cX9_change 38 = .ok (.imul, 1) := by decide +kernel
theorem dX9_change_39 : decode cX9_change 39 = .ok (.iadd, 1) := by decide +kernel
theorem dX9_change_40 : decode cX9_change 40 = .ok (.iload_n 2, 1) := by decide +kernel
theorem dX9_change_41 : decode cX9_change 41 = .ok (.iadd, 1) := by decide +kernel
theorem dX9_change_42 : decode cX9_change 42 = .ok (.iload_n 3, 1) := by decide +kernel
theorem dX9_change_43 : decode cX9_change 43 = .ok (.invokevirtual 166, 3) := by decide +kernel
theorem dX9_change_46 : decode cX9_change 46 = .ok (.goto 4, 3) := by decide +kernel
theorem dX9_change_49 : decode cX9_change 49 = .ok (.iconst (-1), 1) := by decide +kernel
theorem dX9_change_50 : decode cX9_change 50 = .ok (.ireturn, 1) := by decide +kernel
set_option maxRecDepth 20000 in
theorem ggX9_leaves_X9_its : GoodIn wsX9_leaves wsX9_its := goodIn_r _ [6, 1, 7, 8, 9, 10, 11, 12, 13, 14, 15, 16, 17, 18, 19, 20, 21, 22, 23, 24, 25, 26, 27, 28, 29, 30, 31, 32, 33, 34, 35] (by decide +kernel) (by decide +kernel)
set_option maxRecDepth 20000 in
theorem gX9_leaves_X9_its : GoodIn wsX9_leaves (wsV RX9 172 RX9 yX9_its wsX9_its) := goodIn_app (goodIn_of _ (by decide +kernel)) ggX9_leaves_X9_its
theorem dX9_leaves_0 : decode cX9_leaves 0 = .ok (.aload_n 0, 1) := by decide +kernel
theorem dX9_leaves_1 : decode cX9_leaves 1 = .ok (.iload_n 1, 1) := by decide +kernel
theorem dX9_leaves_2 : decode cX9_leaves 2 = .ok (.iconst 4, 1) := by decide +kernel
theorem dX9_leaves_3 : decode cX9_leaves 3 = .ok (.invokevirtual 172, 3) := by decide +kernel
theorem dX9_leaves_6 : decode cX9_leaves 6 = .ok (.istore_n 2, 1) := by decide +kernel
theorem dX9_leaves_7 : decode cX9_leaves 7 = .ok (.iload_n 2, 1) := by decide +kernel
theorem dX9_leaves_8 : decode cX9_leaves 8 = .ok (.ifCond .le 37, 3) := by decide +kernel
theorem dX9_leaves_11 : decode cX9_leaves 11 = .ok (.aload_n 0, 1) := by decide +kernel
theorem dX9_leaves_12 : decode cX9_leaves 12 = .ok (.getfield 7, 3) := by decide +kernel
theorem dX9_leaves_15 : decode cX9_leaves 15 = .ok (.bipush 9, 2) := by decide +kernel
theorem dX9_leaves_17 : decode cX9_leaves 17 = .ok (.bipush 6, 2) := by decide +kernel
theorem dX9_leaves_19 : decode cX9_leaves 19 = .ok (.iload_n 2, 1) := by decide +kernel
theorem dX9_leaves_20 : decode cX9_leaves 20 = .ok (.iconst 1, 1) := by decide +kernel
theorem dX9_leaves_21 : decode cX9_leaves 21 = .ok (.isub, 1) := by decide +kernel
theorem dX9_leaves_22 : decode cX9_leaves 22 = .ok (.imul, 1) := by decide +kernel
theorem dX9_leaves_23 : decode cX9_leaves 23 = .ok (.iadd, 1) := by decide +kernel
theorem dX9_leaves_24 : decode cX9_leaves 24 = .ok (.iconst 4, 1) := by decide +kernel
theorem dX9_leaves_25 : decode cX9_leaves 25 = .ok (.iadd, 1) := by decide +kernel
theorem dX9_leaves_26 : decode cX9_leaves 26 = .ok (.iconst 0, 1) := by decide +kernel
theorem dX9_leaves_27 : decode cX9_leaves 27 = .ok (.iastore, 1) := by decide +kernel
theorem dX9_leaves_28 : decode cX9_leaves 28 = .ok (.aload_n 0, 1) := by decide +kernel
theorem dX9_leaves_29 : decode cX9_leaves 29 = .ok (.getfield 7, 3) := by decide +kernel
theorem dX9_leaves_32 : decode cX9_leaves 32 = .ok (.bipush 9, 2) := by decide +kernel
theorem dX9_leaves_34 : decode cX9_leaves 34 = .ok (.bipush 6, 2) := by decide +kernel
theorem dX9_leaves_36 : decode cX9_leaves 36 = .ok (.iload_n 2, 1) := by decide +kernel
theorem dX9_leaves_37 : decode cX9_leaves 37 = .ok (.iconst 1, 1) := by decide +kernel
theorem dX9_leaves_38 : decode cX9_leaves 38 = .ok (.isub, 1) := by decide +kernel
theorem dX9_leaves_39 : decode cX9_leaves 39 = .ok (.imul, 1) := by decide +kernel
theorem dX9_leaves_40 : decode cX9_leaves 40 = .ok (.iadd, 1) := by decide +kernel
theorem dX9_leaves_41 : decode cX9_leaves 41 = .ok (.iconst 5, 1) := by decide +kernel
theorem dX9_leaves_42 : decode cX9_leaves 42 = .ok (.iadd, 1) := by decide +kernel
theorem dX9_leaves_43 : decode cX9_leaves 43 = .ok (.iconst 1, 1) := by decide +kernel
theorem dX9_leaves_44 : decode cX9_leaves 44 = .ok (.iastore, 1) := by decide +kernel
theorem dX9_leaves_45 : decode cX9_leaves 45 = .ok (.aload_n 0, 1) := by decide +kernel
theorem dX9_leaves_46 : decode cX9_leaves 46 = .ok (.getfield 7, 3) := by decide +kernel
theorem dX9_leaves_49 : decode cX9_leaves 49 = .ok (.bipush 9, 2) := by decide +kernel
theorem dX9_leaves_51 : decode cX9_leaves 51 = .ok (.bipush 6, 2) := by decide +kernel
theorem dX9_leaves_53 : decode cX9_leaves 53 = .ok (.iload_n 1, 1) := by decide +kernel
theorem dX9_leaves_54 : decode cX9_leaves 54 = .ok (.imul, 1) := by decide +kernel
theorem dX9_leaves_55 : decode cX9_leaves 55 = .ok (.iadd, 1) := by decide +kernel
theorem dX9_leaves_56 : decode cX9_leaves 56 = .ok (.iconst 4, 1) := by decide +kernel
theorem dX9_leaves_57 : decode cX9_leaves 57 = .ok (.iadd, 1) := by decide +kernel
theorem dX9_leaves_58 : decode cX9_leaves 58 = .ok (.iconst 0, 1) := by decide +kernel
theorem dX9_leaves_59 : decode cX9_leaves 59 = .ok (.iastore, 1) := by decide +kernel
theorem dX9_leaves_60 : decode cX9_leaves 60 = .ok (.aload_n 0, 1) := by decide +kernel
theorem dX9_leaves_61 : decode cX9_leaves 61 = .ok (.getfield 7, 3) := by decide +kernel
theorem dX9_leaves_64 : decode cX9_leaves 64 = .ok (.bipush 9, 2) := by decide +kernel
theorem dX9_leaves_66 : decode cX9_leaves 66 = .ok (.bipush 6, 2) := by decide +kernel
theorem dX9_leaves_68 : decode cX9_leaves 68 = .ok (.iload_n 1, 1) := by decide +kernel
theorem dX9_leaves_69 : decode cX9_leaves 69 = .ok (.imul, 1) := by decide +kernel
theorem dX9_leaves_70 : decode cX9_leaves 70 = .ok (.iadd, 1) := by decide +kernel
theorem dX9_leaves_71 : decode cX9_leaves 71 = .ok (.iconst 5, 1) := by decide +kernel
theorem dX9_leaves_72 : decode cX9_leaves 72 = .ok (.iadd, 1) := by decide +kernel
theorem dX9_leaves_73 : decode cX9_leaves 73 = .ok (.iconst 1, 1) := by decide +kernel
theorem dX9_leaves_74 : decode cX9_leaves 74 = .ok (.iastore, 1) := by decide +kernel
theorem dX9_leaves_75 : decode cX9_leaves 75 = .ok (.return_, 1) := by decide +kernel
set_option maxRecDepth 20000 in
theorem ggX9_pairs_X9_leaves : GoodIn wsX9_pairs wsX9_leaves := goodIn_r _ [6, 1, 7, 8, 9, 5, 10, 11, 12, 13, 14, 15, 16, 17, 18, 19, 20, 21, 22, 23, 24, 25, 26, 27, 28, 29, 30, 31, 32, 33, 34, 35, 36, 37, 38, 39] (by decide +kernel) (by decide +kernel)
set_option maxRecDepth 20000 in
theorem gX9_pairs_X9_leaves : GoodIn wsX9_pairs (wsV RX9 189 RX9 yX9_leaves wsX9_leaves) := goodIn_app (goodIn_of _ (by decide +kernel)) ggX9_pairs_X9_leaves
theorem dX9_pairs_0 : decode cX9_pairs 0 = .ok (.aload_n 0, 1) := by decide +kernel
theorem dX9_pairs_1 : decode cX9_pairs 1 = .ok (.iload_n 1, 1) := by decide +kernel
theorem dX9_pairs_2 : decode cX9_pairs 2 = .ok (.invokevirtual 189, 3) := by decide +kernel
theorem dX9_pairs_5 : decode cX9_pairs 5 = .ok (.aload_n 0, 1) := by decide +kernel
theorem dX9_pairs_6 : decode cX9_pairs 6 = .ok (.iload_n 2, 1) := by decide +kernel
theorem dX9_pairs_7 : decode cX9_pairs 7 = .ok (.invokevirtual 189, 3) := by decide +kernel
theorem dX9_pairs_10 : decode cX9_pairs 10 = .ok (.aload_n 0, 1) := by decide +kernel
theorem dX9_pairs_11 : decode cX9_pairs 11 = .ok (.getfield 7, 3) := by decide +kernel
theorem dX9_pairs_14 : decode cX9_pairs 14 = .ok (.bipush 9, 2) := by decide +kernel
theorem dX9_pairs_16 : decode cX9_pairs 16 = .ok (.bipush 6, 2) := by decide +kernel
theorem dX9_pairs_18 : decode cX9_pairs 18 = .ok (.iload_n 1, 1) := by decide +kernel
theorem dX9_pairs_19 : decode cX9_pairs 19 = .ok (.imul, 1) := by decide +kernel
theorem dX9_pairs_20 : decode cX9_pairs 20 = .ok (.iadd, 1) := by decide +kernel
theorem dX9_pairs_21 : decode cX9_pairs 21 = .ok (.iconst 4, 1) := by decide +kernel
theorem dX9_pairs_22 : decode cX9_pairs 22 = .ok (.iadd, 1) := by decide +kernel
theorem dX9_pairs_23 : decode cX9_pairs 23 = .ok (.iconst 1, 1) := by decide +kernel
theorem dX9_pairs_24 : decode cX9_pairs 24 = .ok (.iload_n 2, 1) := by decide +kernel
theorem dX9_pairs_25 : decode cX9_pairs 25 = .ok (.iadd, 1) := by decide +kernel
theorem dX9_pairs_26 : decode cX9_pairs 26 = .ok (.iastore, 1) := by decide +kernel
theorem dX9_pairs_27 : decode cX9_pairs 27 = .ok (.aload_n 0, 1) := by decide +kernel
theorem dX9_pairs_28 : decode cX9_pairs 28 = .ok (.getfield 7, 3) := by decide +kernel
theorem dX9_pairs_31 : decode cX9_pairs 31 = .ok (.bipush 9, 2) := by decide +kernel
theorem dX9_pairs_33 : decode cX9_pairs 33 = .ok (.bipush 6, 2) := by decide +kernel
theorem dX9_pairs_35 : decode cX9_pairs 35 = .ok (.iload_n 2, 1) := by decide +kernel
theorem dX9_pairs_36 : decode cX9_pairs 36 = .ok (.imul, 1) := by decide +kernel
theorem dX9_pairs_37 : decode cX9_pairs 37 = .ok (.iadd, 1) := by decide +kernel
theorem dX9_pairs_38 : decode cX9_pairs 38 = .ok (.iconst 4, 1) := by decide +kernel
theorem dX9_pairs_39 : decode cX9_pairs 39 = .ok (.iadd, 1) := by decide +kernel
theorem dX9_pairs_40 : decode cX9_pairs 40 = .ok (.iconst 1, 1) := by decide +kernel
theorem dX9_pairs_41 : decode cX9_pairs 41 = .ok (.iload_n 1, 1) := by decide +kernel
theorem dX9_pairs_42 : decode cX9_pairs 42 = .ok (.iadd, 1) := by decide +kernel
theorem dX9_pairs_43 : decode cX9_pairs 43 = .ok (.iastore, 1) := by decide +kernel
theorem dX9_pairs_44 : decode cX9_pairs 44 = .ok (.aload_n 0, 1) := by decide +kernel
theorem dX9_pairs_45 : decode cX9_pairs 45 = .ok (.getfield 7, 3) := by decide +kernel
theorem dX9_pairs_48 : decode cX9_pairs 48 = .ok (.bipush 9, 2) := by decide +kernel
theorem dX9_pairs_50 : decode cX9_pairs 50 = .ok (.bipush 6, 2) := by decide +kernel
theorem dX9_pairs_52 : decode cX9_pairs 52 = .ok (.iload_n 2, 1) := by decide +kernel
theorem dX9_pairs_53 : decode cX9_pairs 53 = .ok (.imul, 1) := by decide +kernel
theorem dX9_pairs_54 : decode cX9_pairs 54 = .ok (.iadd, 1) := by decide +kernel
theorem dX9_pairs_55 : decode cX9_pairs 55 = .ok (.iconst 5, 1) := by decide +kernel
theorem dX9_pairs_56 : decode cX9_pairs 56 = .ok (.iadd, 1) := by decide +kernel
theorem dX9_pairs_57 : decode cX9_pairs 57 = .ok (.iconst 0, 1) := by decide +kernel
theorem dX9_pairs_58 : decode cX9_pairs 58 = .ok (.iastore, 1) := by decide +kernel
theorem dX9_pairs_59 : decode cX9_pairs 59 = .ok (.return_, 1) := by decide +kernel
set_option maxRecDepth 20000 in
theorem ggX9_pair_X9_isOne : GoodIn wsX9_pair wsX9_isOne := goodIn_r _ [5, 6, 19, 20, 21, 22, 23, 24, 25, 26, 27, 28, 29, 30, 31, 32, 33, 34, 35, 36, 37, 38, 39, 40, 41, 42, 43, 44, 45, 46, 47] (by decide +kernel) (by decide +kernel)
set_option maxRecDepth 20000 in
theorem gX9_pair_X9_isOne : GoodIn wsX9_pair (wsV RX9 130 RX9 yX9_isOne wsX9_isOne) := goodIn_app (goodIn_of _ (by decide +kernel)) ggX9_pair_X9_isOne
set_option maxRecDepth 20000 in
theorem ggX9_pair_X9_its : GoodIn wsX9_pair wsX9_its := goodIn_r _ [10, 6, 19, 20, 21, 22, 23, 24, 25, 26, 27, 28, 29, 30, 31, 32, 33, 34, 35, 36, 37, 38, 39, 40, 41, 42, 43, 44, 45, 46, 47] (by decide +kernel) (by decide +kernel)
set_option maxRecDepth 20000 in
theorem gX9_pair_X9_its : GoodIn wsX9_pair (wsV RX9 172 RX9 yX9_its wsX9_its) := goodIn_app (goodIn_of _ (by decide +kernel)) ggX9_pair_X9_its
set_option maxRecDepth 20000 in
theorem ggX9_pair_X9_pairs : GoodIn wsX9_pair wsX9_pairs := goodIn_r _ [14, 6, 15, 16, 17, 4, 18, 7, 8, 9, 10, 19, 20, 21, 22, 23, 24, 25, 26, 27, 28, 29, 30, 31, 32, 33, 34, 35, 36, 37, 38, 39, 40, 41, 42, 43, 44, 45, 46, 47] (by decide +kernel) (by decide +kernel)
set_option maxRecDepth 20000 in
theorem gX9_pair_X9_pairs : GoodIn wsX9_pair (wsV RX9 133 RX9 yX9_pairs wsX9_pairs) := goodIn_app (goodIn_of _ (by decide +kernel)) ggX9_pair_X9_pairs
theorem dX9_pair_0 : decode cX9_pair 0 = .ok (.aload_n 0, 1) := by decide +kernel
theorem dX9_pair_1 : decode cX9_pair 1 = .ok (.iload_n 1, 1) := by decide +kernel
theorem dX9_pair_2 : decode cX9_pair 2 = .ok (.invokevirtual 130, 3) := by decide +kernel
theorem dX9_pair_5 : decode cX9_pair 5 = .ok (.ifCond .eq 16, 3) := by decide +kernel
theorem dX9_pair_8 : decode cX9_pair 8 = .ok (.aload_n 0, 1) := by decide +kernel
theorem dX9_pair_9 : decode cX9_pair 9 = .ok (.iload_n 2, 1) := by decide +kernel
theorem dX9_pair_10 : decode cX9_pair 10 = .ok (.invokevirtual 130, 3) := by decide +kernel
theorem dX9_pair_13 : decode cX9_pair 13 = .ok (.ifCond .eq 8, 3) := by decide +kernel
theorem dX9_pair_16 : decode cX9_pair 16 = .ok (.iload_n 1, 1) := by decide +kernel
theorem dX9_pair_17 : decode cX9_pair 17 = .ok (.iload_n 2, 1) := by decide +kernel
theorem dX9_pair_18 : decode cX9_pair 18 = .ok (.if_icmp .ne 5, 3) := by decide +kernel
theorem dX9_pair_21 : decode cX9_pair 21 = .ok (.iconst (-1), 1) := by decide +kernel
theorem dX9_pair_22 : decode cX9_pair 22 = .ok (.ireturn, 1) := by decide +kernel
theorem dX9_pair_23 : decode cX9_pair 23 = .ok (.aload_n 0, 1) := by decide +kernel
theorem dX9_pair_24 : decode cX9_pair 24 = .ok (.iload_n 1, 1) := by decide +kernel
theorem dX9_pair_25 : decode cX9_pair 25 = .ok (.iconst 4, 1) := by decide +kernel
theorem dX9_pair_26 : decode cX9_pair 26 = .ok (.invokevirtual 172, 3) := by decide +kernel
theorem dX9_pair_29 : decode cX9_pair 29 = .ok (.iconst 1, 1) := by decide +kernel
theorem dX9_pair_30 : decode cX9_pair 30 = .ok (.iload_n 2, 1) := by decide +kernel
theorem dX9_pair_31 : decode cX9_pair 31 = .ok (.iadd, 1) := by decide +kernel
theorem dX9_pair_32 : decode cX9_pair 32 = .ok (.if_icmp .ne 7, 3) := by decide +kernel
theorem dX9_pair_35 : decode cX9_pair 35 = .ok (.iconst 1, 1) := by decide +kernel
theorem dX9_pair_36 : decode cX9_pair 36 = .ok (.goto 4, 3) := by decide +kernel
theorem dX9_pair_39 : decode cX9_pair 39 = .ok (.iconst 0, 1) := by decide +kernel
theorem dX9_pair_40 : decode cX9_pair 40 = .ok (.istore_n 3, 1) := by decide +kernel
theorem dX9_pair_41 : decode cX9_pair 41 = .ok (.aload_n 0, 1) := by decide +kernel
theorem dX9_pair_42 : decode cX9_pair 42 = .ok (.iload_n 1, 1) := by decide +kernel
theorem dX9_pair_43 : decode cX9_pair 43 = .ok (.iload_n 2, 1) := by decide +kernel
theorem dX9_pair_44 : decode cX9_pair 44 = .ok (.invokevirtual 133, 3) := by decide +kernel
theorem dX9_pair_47 : decode cX9_pair 47 = .ok (.iload_n 3, 1) := by decide +kernel
theorem dX9_pair_48 : decode cX9_pair 48 = .ok (.ifCond .eq 7, 3) := by decide +kernel
theorem dX9_pair_51 : decode cX9_pair 51 = .ok (.iconst 1, 1) := by decide +kernel
theorem dX9_pair_52 : decode cX9_pair 52 = .ok (.goto 4, 3) := by decide +kernel
theorem dX9_pair_55 : decode cX9_pair 55 = .ok (.iconst 0, 1) := by decide +kernel
theorem dX9_pair_56 : decode cX9_pair 56 = .ok (.ireturn, 1) := by decide +kernel
set_option maxRecDepth 20000 in
theorem ggX9_leave_X9_isOne : GoodIn wsX9_leave wsX9_isOne := goodIn_r _ [5, 6, 15, 16, 17, 18, 19, 20, 21, 22, 23, 24, 25, 26, 27, 28, 29, 30, 31, 32, 33, 34, 35, 36, 37, 38, 39, 40, 41, 42, 43] (by decide +kernel) (by decide +kernel)
set_option maxRecDepth 20000 in
theorem gX9_leave_X9_isOne : GoodIn wsX9_leave (wsV RX9 130 RX9 yX9_isOne wsX9_isOne) := goodIn_app (goodIn_of _ (by decide +kernel)) ggX9_leave_X9_isOne
set_option maxRecDepth 20000 in
theorem ggX9_leave_X9_its : GoodIn wsX9_leave wsX9_its := goodIn_r _ [10, 6, 15, 16, 17, 18, 19, 20, 21, 22, 23, 24, 25, 26, 27, 28, 29, 30, 31, 32, 33, 34, 35, 36, 37, 38, 39, 40, 41, 42, 43] (by decide +kernel) (by decide +kernel)
set_option maxRecDepth 20000 in
theorem gX9_leave_X9_its : GoodIn wsX9_leave (wsV RX9 172 RX9 yX9_its wsX9_its) := goodIn_app (goodIn_of _ (by decide +kernel)) ggX9_leave_X9_its
set_option maxRecDepth 20000 in
theorem ggX9_leave_X9_leaves : GoodIn wsX9_leave wsX9_leaves := goodIn_r _ [14, 6, 7, 8, 9, 4, 10, 15, 16, 17, 18, 19, 20, 21, 22, 23, 24, 25, 26, 27, 28, 29, 30, 31, 32, 33, 34, 35, 36, 37, 38, 39, 40, 41, 42, 43] (by decide +kernel) (by decide +kernel)
set_option maxRecDepth 20000 in
theorem gX9_leave_X9_leaves : GoodIn wsX9_leave (wsV RX9 189 RX9 yX9_leaves wsX9_leaves) := goodIn_app (goodIn_of _ (by decide +kernel)) ggX9_leave_X9_leaves
theorem dX9_leave_0 : decode cX9_leave 0 = .ok (.aload_n 0, 1) := by decide +kernel
theorem dX9_leave_1 : decode cX9_leave 1 = .ok (.iload_n 1, 1) := by decide +kernel
theorem dX9_leave_2 : decode cX9_leave 2 = .ok (.invokevirtual 130, 3) := by decide +kernel
theorem dX9_leave_5 : decode cX9_leave 5 = .ok (.ifCond .ne 5, 3) := by decide +kernel
theorem dX9_leave_8 : decode cX9_leave 8 = .ok (.iconst (-1), 1) := by decide +kernel
theorem dX9_leave_9 : decode cX9_leave 9 = .ok (.ireturn, 1) := by decide +kernel
theorem dX9_leave_10 : decode cX9_leave 10 = .ok (.aload_n 0, 1) := by decide +kernel
theorem dX9_leave_11 : decode cX9_leave 11 = .ok (.iload_n 1, 1) := by decide +kernel
theorem dX9_leave_12 : decode cX9_leave 12 = .ok (.iconst 4, 1) := by decide +kernel
theorem dX9_leave_13 : decode cX9_leave 13 = .ok (.invokevirtual 172, 3) := by decide +kernel
theorem dX9_leave_16 : decode cX9_leave 16 = .ok (.ifCond .le 7, 3) := by decide +kernel
theorem dX9_leave_19 : decode cX9_leave 19 = .ok (.iconst 1, 1) := by decide +kernel
theorem dX9_leave_20 : decode cX9_leave 20 = .ok (.goto 4, 3) := by decide +kernel
theorem dX9_leave_23 : decode cX9_leave 23 = .ok (.iconst 0, 1) := by decide +kernel
theorem dX9_leave_24 : decode cX9_leave 24 = .ok (.istore_n 2, 1) := by decide +kernel
theorem dX9_leave_25 : decode cX9_leave 25 = .ok (.aload_n 0, 1) := by decide +kernel
theorem dX9_leave_26 : decode cX9_leave 26 = .ok (.iload_n 1, 1) := by decide +kernel
theorem dX9_leave_27 : decode cX9_leave 27 = .ok (.invokevirtual 189, 3) := by decide +kernel
theorem dX9_leave_30 : decode cX9_leave 30 = .ok (.iload_n 2, 1) := by decide +kernel
theorem dX9_leave_31 : decode cX9_leave 31 = .ok (.ifCond .eq 7, 3) := by decide +kernel
theorem dX9_leave_34 : decode cX9_leave 34 = .ok (.iconst 1, 1) := by decide +kernel
theorem dX9_leave_35 : decode cX9_leave 35 = .ok (.goto 4, 3) := by decide +kernel
theorem dX9_leave_38 : decode cX9_leave 38 = .ok (.iconst 0, 1) := by decide +kernel
theorem dX9_leave_39 : decode cX9_leave 39 = .ok (.ireturn, 1) := by decide +kernel
set_option maxRecDepth 20000 in
theorem ggX9_spend_X9_isOne : GoodIn wsX9_spend wsX9_isOne := goodIn_r _ [6, 1, 10, 11, 12, 13, 14, 15, 16, 17, 18, 19, 20, 21, 22, 23, 24, 25, 26, 27, 28, 29, 30, 31, 32, 33, 34, 35, 36, 37, 38] (by decide +kernel) (by decide +kernel)
set_option maxRecDepth 20000 in
theorem gX9_spend_X9_isOne : GoodIn wsX9_spend (wsV RX9 130 RX9 yX9_isOne wsX9_isOne) := goodIn_app (goodIn_of _ (by decide +kernel)) ggX9_spend_X9_isOne
set_option maxRecDepth 20000 in
theorem ggX9_spend_X9_least : GoodIn wsX9_spend wsX9_least := goodIn_r _ [9] (by decide +kernel) (by decide +kernel)
set_option maxRecDepth 20000 in
theorem gX9_spend_X9_least : GoodIn wsX9_spend (va_wsS RX9 192 yX9_least wsX9_least) := goodIn_app (goodIn_of _ (by decide +kernel)) ggX9_spend_X9_least
theorem dX9_spend_0 : decode cX9_spend 0 = .ok (.aload_n 0, 1) := by decide +kernel
theorem dX9_spend_1 : decode cX9_spend 1 = .ok (.iload_n 1, 1) := by decide +kernel
theorem dX9_spend_2 : decode cX9_spend 2 = .ok (.invokevirtual 130, 3) := by decide +kernel
theorem dX9_spend_5 : decode cX9_spend 5 = .ok (.ifCond .ne 5, 3) := by decide +kernel
theorem dX9_spend_8 : decode cX9_spend 8 = .ok (.iconst (-1), 1) := by decide +kernel
theorem dX9_spend_9 : decode cX9_spend 9 = .ok (.ireturn, 1) := by decide +kernel
theorem dX9_spend_10 : decode cX9_spend 10 = .ok (.bipush 9, 2) := by decide +kernel
theorem dX9_spend_12 : decode cX9_spend 12 = .ok (.bipush 6, 2) := by decide +kernel
theorem dX9_spend_14 : decode cX9_spend 14 = .ok (.iload_n 1, 1) := by decide +kernel
theorem dX9_spend_15 : decode cX9_spend 15 = .ok (.imul, 1) := by decide +kernel
theorem dX9_spend_16 : decode cX9_spend 16 = .ok (.iadd, 1) := by decide +kernel
theorem dX9_spend_17 : decode cX9_spend 17 = .ok (.istore_n 2, 1) := by decide +kernel
theorem dX9_spend_18 : decode cX9_spend 18 = .ok (.aload_n 0, 1) := by decide +kernel
theorem dX9_spend_19 : decode cX9_spend 19 = .ok (.getfield 7, 3) := by decide +kernel
theorem dX9_spend_22 : decode cX9_spend 22 = .ok (.iload_n 2, 1) := by decide +kernel
theorem dX9_spend_23 : decode cX9_spend 23 = .ok (.iconst 2, 1) := by decide +kernel
theorem dX9_spend_24 : decode cX9_spend 24 = .ok (.iadd, 1) := by decide +kernel
theorem dX9_spend_25 : decode cX9_spend 25 = .ok (.iaload, 1) := by decide +kernel
theorem dX9_spend_26 : decode cX9_spend 26 = .ok (.bipush 99, 2) := by decide +kernel
theorem dX9_spend_28 : decode cX9_spend 28 = .ok (.aload_n 0, 1) := by decide +kernel
theorem dX9_spend_29 : decode cX9_spend 29 = .ok (.getfield 7, 3) := by decide +kernel
theorem dX9_spend_32 : decode cX9_spend 32 = .ok (.iload_n 2, 1) := by decide +kernel
theorem dX9_spend_33 : decode cX9_spend 33 = .ok (.iconst 1, 1) := by decide +kernel
theorem dX9_spend_34 : decode cX9_spend 34 = .ok (.iadd, 1) := by decide +kernel
theorem dX9_spend_35 : decode cX9_spend 35 = .ok (.iaload, 1) := by decide +kernel
theorem dX9_spend_36 : decode cX9_spend 36 = .ok (.isub, 1) := by decide +kernel
theorem dX9_spend_37 : decode cX9_spend 37 = .ok (.invokestatic 192, 3) := by decide +kernel
theorem dX9_spend_40 : decode cX9_spend 40 = .ok (.istore_n 3, 1) := by decide +kernel
theorem dX9_spend_41 : decode cX9_spend 41 = .ok (.aload_n 0, 1) := by decide +kernel
theorem dX9_spend_42 : decode cX9_spend 42 = .ok (.getfield 7, 3) := by decide +kernel
theorem dX9_spend_45 : decode cX9_spend 45 = .ok (.iload_n 2, 1) := by decide +kernel
theorem dX9_spend_46 : decode cX9_spend 46 = .ok (.iconst 2, 1) := by decide +kernel
theorem dX9_spend_47 : decode cX9_spend 47 = .ok (.iadd, 1) := by decide +kernel
theorem dX9_spend_48 : decode cX9_spend 48 = .ok (.dup2, 1) := by decide +kernel
theorem dX9_spend_49 : decode cX9_spend 49 = .ok (.iaload, 1) := by decide +kernel
theorem dX9_spend_50 : decode cX9_spend 50 = .ok (.iload_n 3, 1) := by decide +kernel
theorem dX9_spend_51 : decode cX9_spend 51 = .ok (.isub, 1) := by decide +kernel
theorem dX9_spend_52 : decode cX9_spend 52 = .ok (.iastore, 1) := by decide +kernel
theorem dX9_spend_53 : decode cX9_spend 53 = .ok (.aload_n 0, 1) := by decide +kernel
theorem dX9_spend_54 : decode cX9_spend 54 = .ok (.getfield 7, 3) := by decide +kernel
theorem dX9_spend_57 : decode cX9_spend 57 = .ok (.iload_n 2, 1) := by decide +kernel
theorem dX9_spend_58 : decode cX9_spend 58 = .ok (.iconst 1, 1) := by decide +kernel
theorem dX9_spend_59 : decode cX9_spend 59 = .ok (.iadd, 1) := by decide +kernel
theorem dX9_spend_60 : decode cX9_spend 60 = .ok (.dup2, 1) := by decide +kernel
theorem dX9_spend_61 : decode cX9_spend 61 = .ok (.iaload, 1) := by decide +kernel
theorem dX9_spend_62 : decode cX9_spend 62 = .ok (.iload_n 3, 1) := by decide +kernel
theorem dX9_spend_63 : decode cX9_spend 63 = .ok (.iadd, 1) := by decide +kernel
theorem dX9_spend_64 : decode cX9_spend 64 = .ok (.iastore, 1) := by decide +kernel
theorem dX9_spend_65 : decode cX9_spend 65 = .ok (.aload_n 0, 1) := by decide +kernel
theorem dX9_spend_66 : decode cX9_spend 66 = .ok (.getfield 7, 3) := by decide +kernel
theorem dX9_spend_69 : decode cX9_spend 69 = .ok (.iload_n 2, 1) := by decide +kernel
theorem dX9_spend_70 : decode cX9_spend 70 = .ok (.iconst 1, 1) := by decide +kernel
theorem dX9_spend_71 : decode cX9_spend 71 = .ok (.iadd, 1) := by decide +kernel
theorem dX9_spend_72 : decode cX9_spend 72 = .ok (.iaload, 1) := by decide +kernel
theorem dX9_spend_73 : decode cX9_spend 73 = .ok (.ireturn, 1) := by decide +kernel
set_option maxRecDepth 20000 in
theorem ggX9_growsNow_X9_growsOf : GoodIn wsX9_growsNow wsX9_growsOf := goodIn_r _ [7, 1, 8, 9, 10, 6, 11, 18, 19, 20, 21, 22, 23, 24, 25, 26, 27, 28, 29, 30, 31, 32, 33, 34, 35, 36, 37, 38, 39, 40, 41, 42, 43, 44, 45, 46] (by decide +kernel) (by decide +kernel)
set_option maxRecDepth 20000 in
theorem gX9_growsNow_X9_growsOf : GoodIn wsX9_growsNow (wsV RX9 183 RX9 yX9_growsOf wsX9_growsOf) := goodIn_app (goodIn_of _ (by decide +kernel)) ggX9_growsNow_X9_growsOf
set_option maxRecDepth 20000 in
theorem ggX9_growsNow_X9_greatest : GoodIn wsX9_growsNow wsX9_greatest := goodIn_r _ [14] (by decide +kernel) (by decide +kernel)
set_option maxRecDepth 20000 in
theorem gX9_growsNow_X9_greatest : GoodIn wsX9_growsNow (va_wsS RX9 175 yX9_greatest wsX9_greatest) := goodIn_app (goodIn_of _ (by decide +kernel)) ggX9_growsNow_X9_greatest
set_option maxRecDepth 20000 in
theorem ggX9_growsNow_X9_least : GoodIn wsX9_growsNow wsX9_least := goodIn_r _ [17] (by decide +kernel) (by decide +kernel)
set_option maxRecDepth 20000 in
theorem gX9_growsNow_X9_least : GoodIn wsX9_growsNow (va_wsS RX9 192 yX9_least wsX9_least) := goodIn_app (goodIn_of _ (by decide +kernel)) ggX9_growsNow_X9_least
theorem dX9_growsNow_0 : decode cX9_growsNow 0 = .ok (.bipush 9, 2) := by decide +kernel
theorem dX9_growsNow_2 : decode cX9_growsNow 2 = .ok (.bipush 6, 2) := by decide +kernel
theorem dX9_growsNow_4 : decode cX9_growsNow 4 = .ok (.iload_n 1, 1) := by decide +kernel
theorem dX9_growsNow_5 : decode cX9_growsNow 5 = .ok (.imul, 1) := by decide +kernel
theorem dX9_growsNow_6 : decode cX9_growsNow 6 = .ok (.iadd, 1) := by decide +kernel
theorem dX9_growsNow_7 : decode cX9_growsNow 7 = .ok (.iconst 1, 1) := by decide +kernel
theorem dX9_growsNow_8 : decode cX9_growsNow 8 = .ok (.iadd, 1) := by decide +kernel
theorem dX9_growsNow_9 : decode cX9_growsNow 9 = .ok (.istore_n 2, 1) := by decide +kernel
theorem dX9_growsNow_10 : decode cX9_growsNow 10 = .ok (.iconst 0, 1) := by decide +kernel
theorem dX9_growsNow_11 : decode cX9_growsNow 11 = .ok (.aload_n 0, 1) := by decide +kernel
theorem dX9_growsNow_12 : decode cX9_growsNow 12 = .ok (.getfield 7, 3) := by decide +kernel
theorem dX9_growsNow_15 : decode cX9_growsNow 15 = .ok (.iload_n 2, 1) := by decide +kernel
theorem dX9_growsNow_16 : decode cX9_growsNow 16 = .ok (.iaload, 1) := by decide +kernel
theorem dX9_growsNow_17 : decode cX9_growsNow 17 = .ok (.aload_n 0, 1) := by decide +kernel
theorem dX9_growsNow_18 : decode cX9_growsNow 18 = .ok (.iload_n 1, 1) := by decide +kernel
theorem dX9_growsNow_19 : decode cX9_growsNow 19 = .ok (.invokevirtual 183, 3) := by decide +kernel
theorem dX9_growsNow_22 : decode cX9_growsNow 22 = .ok (.iadd, 1) := by decide +kernel
theorem dX9_growsNow_23 : decode cX9_growsNow 23 = .ok (.invokestatic 175, 3) := by decide +kernel
theorem dX9_growsNow_26 : decode cX9_growsNow 26 = .ok (.istore_n 3, 1) := by decide +kernel
theorem dX9_growsNow_27 : decode cX9_growsNow 27 = .ok (.aload_n 0, 1) := by decide +kernel
theorem dX9_growsNow_28 : decode cX9_growsNow 28 = .ok (.getfield 7, 3) := by decide +kernel
theorem dX9_growsNow_31 : decode cX9_growsNow 31 = .ok (.iload_n 2, 1) := by decide +kernel
theorem dX9_growsNow_32 : decode cX9_growsNow 32 = .ok (.bipush 99, 2) := by decide +kernel
theorem dX9_growsNow_34 : decode cX9_growsNow 34 = .ok (.iload_n 3, 1) := by decide +kernel
theorem dX9_growsNow_35 : decode cX9_growsNow 35 = .ok (.invokestatic 192, 3) := by decide +kernel
theorem dX9_growsNow_38 : decode cX9_growsNow 38 = .ok (.iastore, 1) := by decide +kernel
theorem dX9_growsNow_39 : decode cX9_growsNow 39 = .ok (.aload_n 0, 1) := by decide +kernel
theorem dX9_growsNow_40 : decode cX9_growsNow 40 = .ok (.getfield 7, 3) := by decide +kernel
theorem dX9_growsNow_43 : decode cX9_growsNow 43 = .ok (.iconst 4, 1) := by decide +kernel
theorem dX9_growsNow_44 : decode cX9_growsNow 44 = .ok (.ldc 195, 2) := by decide +kernel
theorem dX9_growsNow_46 : decode cX9_growsNow 46 = .ok (.aload_n 0, 1) := by decide +kernel
theorem dX9_growsNow_47 : decode cX9_growsNow 47 = .ok (.getfield 7, 3) := by decide +kernel
theorem dX9_growsNow_50 : decode cX9_growsNow 50 = .ok (.iconst 4, 1) := by decide +kernel
theorem dX9_growsNow_51 : decode cX9_growsNow 51 = .ok (.iaload, 1) := by decide +kernel
theorem dX9_growsNow_52 : decode cX9_growsNow 52 = .ok (.iload_n 3, 1) := by decide +kernel
theorem dX9_growsNow_53 : decode cX9_growsNow 53 = .ok (.iadd, 1) := by decide +kernel
theorem dX9_growsNow_54 : decode cX9_growsNow 54 = .ok (.aload_n 0, 1) := by decide +kernel
theorem dX9_growsNow_55 : decode cX9_growsNow 55 = .ok (.getfield 7, 3) := by decide +kernel
theorem dX9_growsNow_58 : decode cX9_growsNow 58 = .ok (.iload_n 2, 1) := by decide +kernel
theorem dX9_growsNow_59 : decode cX9_growsNow 59 = .ok (.iaload, 1) := by decide +kernel
theorem dX9_growsNow_60 : decode cX9_growsNow 60 = .ok (.isub, 1) := by decide +kernel
theorem dX9_growsNow_61 : decode cX9_growsNow 61 = .ok (.invokestatic 192, 3) := by decide +kernel
theorem dX9_growsNow_64 : decode cX9_growsNow 64 = .ok (.iastore, 1) := by decide +kernel
theorem dX9_growsNow_65 : decode cX9_growsNow 65 = .ok (.return_, 1) := by decide +kernel
set_option maxRecDepth 20000 in
theorem ggX9_saysNow_X9_its : GoodIn wsX9_saysNow wsX9_its := goodIn_r _ [6, 1, 17, 18, 19, 20, 21, 22, 23, 24, 25, 26, 27, 28, 29, 30, 31, 32, 33, 34, 35, 36, 37, 38, 39, 40, 41, 42, 43, 44, 45] (by decide +kernel) (by decide +kernel)
set_option maxRecDepth 20000 in
theorem gX9_saysNow_X9_its : GoodIn wsX9_saysNow (wsV RX9 172 RX9 yX9_its wsX9_its) := goodIn_app (goodIn_of _ (by decide +kernel)) ggX9_saysNow_X9_its
set_option maxRecDepth 20000 in
theorem ggX9_saysNow_X9_saysOf : GoodIn wsX9_saysNow wsX9_saysOf := goodIn_r _ [10, 1, 2, 3, 4, 5, 6, 11, 12, 13, 17, 18, 19, 20, 21, 22, 23, 24, 25, 26, 27, 28, 29, 30, 31, 32, 33, 34, 35, 36, 37, 38, 39, 40, 41, 42, 43, 44, 45] (by decide +kernel) (by decide +kernel)
set_option maxRecDepth 20000 in
theorem gX9_saysNow_X9_saysOf : GoodIn wsX9_saysNow (wsV RX9 180 RX9 yX9_saysOf wsX9_saysOf) := goodIn_app (goodIn_of _ (by decide +kernel)) ggX9_saysNow_X9_saysOf
set_option maxRecDepth 20000 in
theorem ggX9_saysNow_X9_least : GoodIn wsX9_saysNow wsX9_least := goodIn_r _ [16] (by decide +kernel) (by decide +kernel)
set_option maxRecDepth 20000 in
theorem gX9_saysNow_X9_least : GoodIn wsX9_saysNow (va_wsS RX9 192 yX9_least wsX9_least) := goodIn_app (goodIn_of _ (by decide +kernel)) ggX9_saysNow_X9_least
theorem dX9_saysNow_0 : decode cX9_saysNow 0 = .ok (.bipush 9, 2) := by decide +kernel
theorem dX9_saysNow_2 : decode cX9_saysNow 2 = .ok (.bipush 6, 2) := by decide +kernel
theorem dX9_saysNow_4 : decode cX9_saysNow 4 = .ok (.iload_n 1, 1) := by decide +kernel
theorem dX9_saysNow_5 : decode cX9_saysNow 5 = .ok (.imul, 1) := by decide +kernel
theorem dX9_saysNow_6 : decode cX9_saysNow 6 = .ok (.iadd, 1) := by decide +kernel
theorem dX9_saysNow_7 : decode cX9_saysNow 7 = .ok (.iconst 1, 1) := by decide +kernel
theorem dX9_saysNow_8 : decode cX9_saysNow 8 = .ok (.iadd, 1) := by decide +kernel
theorem dX9_saysNow_9 : decode cX9_saysNow 9 = .ok (.istore_n 2, 1) := by decide +kernel
theorem dX9_saysNow_10 : decode cX9_saysNow 10 = .ok (.aload_n 0, 1) := by decide +kernel
theorem dX9_saysNow_11 : decode cX9_saysNow 11 = .ok (.iload_n 1, 1) := by decide +kernel
theorem dX9_saysNow_12 : decode cX9_saysNow 12 = .ok (.iconst 4, 1) := by decide +kernel
theorem dX9_saysNow_13 : decode cX9_saysNow 13 = .ok (.invokevirtual 172, 3) := by decide +kernel
theorem dX9_saysNow_16 : decode cX9_saysNow 16 = .ok (.iconst 1, 1) := by decide +kernel
theorem dX9_saysNow_17 : decode cX9_saysNow 17 = .ok (.isub, 1) := by decide +kernel
theorem dX9_saysNow_18 : decode cX9_saysNow 18 = .ok (.istore_n 3, 1) := by decide +kernel
theorem dX9_saysNow_19 : decode cX9_saysNow 19 = .ok (.iload_n 3, 1) := by decide +kernel
theorem dX9_saysNow_20 : decode cX9_saysNow 20 = .ok (.ifCond .ge 11, 3) := by decide +kernel
theorem dX9_saysNow_23 : decode cX9_saysNow 23 = .ok (.aload_n 0, 1) := by decide +kernel
theorem dX9_saysNow_24 : decode cX9_saysNow 24 = .ok (.iload_n 1, 1) := by decide +kernel
theorem dX9_saysNow_25 : decode cX9_saysNow 25 = .ok (.invokevirtual 180, 3) := by decide +kernel
theorem dX9_saysNow_28 : decode cX9_saysNow 28 = .ok (.goto 10, 3) := by decide +kernel
theorem dX9_saysNow_31 : decode cX9_saysNow 31 = .ok (.iconst 2, 1) := by decide +kernel
theorem dX9_saysNow_32 : decode cX9_saysNow 32 = .ok (.aload_n 0, 1) := by decide +kernel
theorem dX9_saysNow_33 : decode cX9_saysNow 33 = .ok (.iload_n 1, 1) := by decide +kernel
theorem dX9_saysNow_34 : decode cX9_saysNow 34 = .ok (.invokevirtual 180, 3) := by decide +kernel
theorem dX9_saysNow_37 : decode cX9_saysNow 37 = .ok (.imul, 1) := by decide +kernel
theorem dX9_saysNow_38 : decode cX9_saysNow 38 = .ok (.istore 4, 2) := by decide +kernel
theorem dX9_saysNow_40 : decode cX9_saysNow 40 = .ok (.iload 4, 2) := by decide +kernel
theorem dX9_saysNow_42 : decode cX9_saysNow 42 = .ok (.aload_n 0, 1) := by decide +kernel
theorem dX9_saysNow_43 : decode cX9_saysNow 43 = .ok (.getfield 7, 3) := by decide +kernel
theorem dX9_saysNow_46 : decode cX9_saysNow 46 = .ok (.iload_n 2, 1) := by decide +kernel
theorem dX9_saysNow_47 : decode cX9_saysNow 47 = .ok (.iaload, 1) := by decide +kernel
theorem dX9_saysNow_48 : decode cX9_saysNow 48 = .ok (.invokestatic 192, 3) := by decide +kernel
theorem dX9_saysNow_51 : decode cX9_saysNow 51 = .ok (.istore 5, 2) := by decide +kernel
theorem dX9_saysNow_53 : decode cX9_saysNow 53 = .ok (.aload_n 0, 1) := by decide +kernel
theorem dX9_saysNow_54 : decode cX9_saysNow 54 = .ok (.getfield 7, 3) := by decide +kernel
theorem dX9_saysNow_57 : decode cX9_saysNow 57 = .ok (.iload_n 2, 1) := by decide +kernel
theorem dX9_saysNow_58 : decode cX9_saysNow 58 = .ok (.dup2, 1) := by decide +kernel
theorem dX9_saysNow_59 : decode cX9_saysNow 59 = .ok (.iaload, 1) := by decide +kernel
theorem dX9_saysNow_60 : decode cX9_saysNow 60 = .ok (.iload 5, 2) := by decide +kernel
theorem dX9_saysNow_62 : decode cX9_saysNow 62 = .ok (.isub, 1) := by decide +kernel
theorem dX9_saysNow_63 : decode cX9_saysNow 63 = .ok (.iastore, 1) := by decide +kernel
theorem dX9_saysNow_64 : decode cX9_saysNow 64 = .ok (.iload_n 3, 1) := by decide +kernel
theorem dX9_saysNow_65 : decode cX9_saysNow 65 = .ok (.ifCond .ge 7, 3) := by decide +kernel
theorem dX9_saysNow_68 : decode cX9_saysNow 68 = .ok (.iconst 0, 1) := by decide +kernel
theorem dX9_saysNow_69 : decode cX9_saysNow 69 = .ok (.goto 17, 3) := by decide +kernel
theorem dX9_saysNow_72 : decode cX9_saysNow 72 = .ok (.iload 4, 2) := by decide +kernel
theorem dX9_saysNow_74 : decode cX9_saysNow 74 = .ok (.iload 5, 2) := by decide +kernel
theorem dX9_saysNow_76 : decode cX9_saysNow 76 = .ok (.isub, 1) := by decide +kernel
theorem dX9_saysNow_77 : decode cX9_saysNow 77 = .ok (.aload_n 0, 1) := by decide +kernel
theorem dX9_saysNow_78 : decode cX9_saysNow 78 = .ok (.iload_n 3, 1) := by decide +kernel
theorem dX9_saysNow_79 : decode cX9_saysNow 79 = .ok (.iconst 1, 1) := by decide +kernel
theorem dX9_saysNow_80 : decode cX9_saysNow 80 = .ok (.invokevirtual 172, 3) := by decide +kernel
theorem dX9_saysNow_83 : decode cX9_saysNow 83 = .ok (.invokestatic 192, 3) := by decide +kernel
theorem dX9_saysNow_86 : decode cX9_saysNow 86 = .ok (.istore 6, 2) := by decide +kernel
theorem dX9_saysNow_88 : decode cX9_saysNow 88 = .ok (.iload_n 3, 1) := by decide +kernel
theorem dX9_saysNow_89 : decode cX9_saysNow 89 = .ok (.ifCond .lt 22, 3) := by decide +kernel
theorem dX9_saysNow_92 : decode cX9_saysNow 92 = .ok (.aload_n 0, 1) := by decide +kernel
theorem dX9_saysNow_93 : decode cX9_saysNow 93 = .ok (.getfield 7, 3) := by decide +kernel
theorem dX9_saysNow_96 : decode cX9_saysNow 96 = .ok (.bipush 9, 2) := by decide +kernel
theorem dX9_saysNow_98 : decode cX9_saysNow 98 = .ok (.bipush 6, 2) := by decide +kernel
theorem dX9_saysNow_100 : decode cX9_saysNow 100 = .ok (.iload_n 3, 1) := by decide +kernel
theorem dX9_saysNow_101 : decode cX9_saysNow 101 = .ok (.imul, 1) := by decide +kernel
theorem dX9_saysNow_102 : decode cX9_saysNow 102 = .ok (.iadd, 1) := by decide +kernel
theorem dX9_saysNow_103 : decode cX9_saysNow 103 = .ok (.iconst 1, 1) := by decide +kernel
theorem dX9_saysNow_104 : decode cX9_saysNow 104 = .ok (.iadd, 1) := by decide +kernel
theorem dX9_saysNow_105 : decode cX9_saysNow 105 = .ok (.dup2, 1) := by decide +kernel
theorem dX9_saysNow_106 : decode cX9_saysNow 106 = .ok (.iaload, 1) := by decide +kernel
theorem dX9_saysNow_107 : decode cX9_saysNow 107 = .ok (.iload 6, 2) := by decide +kernel
theorem dX9_saysNow_109 : decode cX9_saysNow 109 = .ok (.isub, 1) := by decide +kernel
theorem dX9_saysNow_110 : decode cX9_saysNow 110 = .ok (.iastore, 1) := by decide +kernel
theorem dX9_saysNow_111 : decode cX9_saysNow 111 = .ok (.iload 5, 2) := by decide +kernel
theorem dX9_saysNow_113 : decode cX9_saysNow 113 = .ok (.iload 6, 2) := by decide +kernel
theorem dX9_saysNow_115 : decode cX9_saysNow 115 = .ok (.iadd, 1) := by decide +kernel
theorem dX9_saysNow_116 : decode cX9_saysNow 116 = .ok (.ireturn, 1) := by decide +kernel
set_option maxRecDepth 20000 in
theorem ggX9_savesNow_X9_savesOf : GoodIn wsX9_savesNow wsX9_savesOf := goodIn_r _ [6, 1, 7, 8, 9, 5, 10, 14, 15, 16, 17, 18, 19, 20, 21, 22, 23, 24, 25, 26, 27, 28, 29, 30, 31, 32, 33, 34, 35, 36, 37, 38, 39, 40, 41, 42] (by decide +kernel) (by decide +kernel)
set_option maxRecDepth 20000 in
theorem gX9_savesNow_X9_savesOf : GoodIn wsX9_savesNow (wsV RX9 186 RX9 yX9_savesOf wsX9_savesOf) := goodIn_app (goodIn_of _ (by decide +kernel)) ggX9_savesNow_X9_savesOf
set_option maxRecDepth 20000 in
theorem ggX9_savesNow_X9_least : GoodIn wsX9_savesNow wsX9_least := goodIn_r _ [13] (by decide +kernel) (by decide +kernel)
set_option maxRecDepth 20000 in
theorem gX9_savesNow_X9_least : GoodIn wsX9_savesNow (va_wsS RX9 192 yX9_least wsX9_least) := goodIn_app (goodIn_of _ (by decide +kernel)) ggX9_savesNow_X9_least
theorem dX9_savesNow_0 : decode cX9_savesNow 0 = .ok (.bipush 9, 2) := by decide +kernel
theorem dX9_savesNow_2 : decode cX9_savesNow 2 = .ok (.bipush 6, 2) := by decide +kernel
theorem dX9_savesNow_4 : decode cX9_savesNow 4 = .ok (.iload_n 1, 1) := by decide +kernel
theorem dX9_savesNow_5 : decode cX9_savesNow 5 = .ok (.imul, 1) := by decide +kernel
theorem dX9_savesNow_6 : decode cX9_savesNow 6 = .ok (.iadd, 1) := by decide +kernel
theorem dX9_savesNow_7 : decode cX9_savesNow 7 = .ok (.istore_n 2, 1) := by decide +kernel
theorem dX9_savesNow_8 : decode cX9_savesNow 8 = .ok (.aload_n 0, 1) := by decide +kernel
theorem dX9_savesNow_9 : decode cX9_savesNow 9 = .ok (.iload_n 1, 1) := by decide +kernel
theorem dX9_savesNow_10 : decode cX9_savesNow 10 = .ok (.invokevirtual 186, 3) := by decide +kernel
theorem dX9_savesNow_13 : decode cX9_savesNow 13 = .ok (.aload_n 0, 1) := by decide +kernel
theorem dX9_savesNow_14 : decode cX9_savesNow 14 = .ok (.getfield 7, 3) := by decide +kernel
theorem dX9_savesNow_17 : decode cX9_savesNow 17 = .ok (.iload_n 2, 1) := by decide +kernel
theorem dX9_savesNow_18 : decode cX9_savesNow 18 = .ok (.iconst 1, 1) := by decide +kernel
theorem dX9_savesNow_19 : decode cX9_savesNow 19 = .ok (.iadd, 1) := by decide +kernel
theorem dX9_savesNow_20 : decode cX9_savesNow 20 = .ok (.iaload, 1) := by decide +kernel
theorem dX9_savesNow_21 : decode cX9_savesNow 21 = .ok (.bipush 99, 2) := by decide +kernel
theorem dX9_savesNow_23 : decode cX9_savesNow 23 = .ok (.aload_n 0, 1) := by decide +kernel
theorem dX9_savesNow_24 : decode cX9_savesNow 24 = .ok (.getfield 7, 3) := by decide +kernel
theorem dX9_savesNow_27 : decode cX9_savesNow 27 = .ok (.iload_n 2, 1) := by decide +kernel
theorem dX9_savesNow_28 : decode cX9_savesNow 28 = .ok (.iconst 2, 1) := by decide +kernel
theorem dX9_savesNow_29 : decode cX9_savesNow 29 = .ok (.iadd, 1) := by decide +kernel
theorem dX9_savesNow_30 : decode cX9_savesNow 30 = .ok (.iaload, 1) := by decide +kernel
theorem dX9_savesNow_31 : decode cX9_savesNow 31 = .ok (.isub, 1) := by decide +kernel
theorem dX9_savesNow_32 : decode cX9_savesNow 32 = .ok (.invokestatic 192, 3) := by decide +kernel
theorem dX9_savesNow_35 : decode cX9_savesNow 35 = .ok (.invokestatic 192, 3) := by decide +kernel
theorem dX9_savesNow_38 : decode cX9_savesNow 38 = .ok (.istore_n 3, 1) := by decide +kernel
theorem dX9_savesNow_39 : decode cX9_savesNow 39 = .ok (.aload_n 0, 1) := by decide +kernel
theorem dX9_savesNow_40 : decode cX9_savesNow 40 = .ok (.getfield 7, 3) := by decide +kernel
theorem dX9_savesNow_43 : decode cX9_savesNow 43 = .ok (.iload_n 2, 1) := by decide +kernel
theorem dX9_savesNow_44 : decode cX9_savesNow 44 = .ok (.iconst 1, 1) := by decide +kernel
theorem dX9_savesNow_45 : decode cX9_savesNow 45 = .ok (.iadd, 1) := by decide +kernel
theorem dX9_savesNow_46 : decode cX9_savesNow 46 = .ok (.dup2, 1) := by decide +kernel
theorem dX9_savesNow_47 : decode cX9_savesNow 47 = .ok (.iaload, 1) := by decide +kernel
theorem dX9_savesNow_48 : decode cX9_savesNow 48 = .ok (.iload_n 3, 1) := by decide +kernel
theorem dX9_savesNow_49 : decode cX9_savesNow 49 = .ok (.isub, 1) := by decide +kernel
theorem dX9_savesNow_50 : decode cX9_savesNow 50 = .ok (.iastore, 1) := by decide +kernel
theorem dX9_savesNow_51 : decode cX9_savesNow 51 = .ok (.aload_n 0, 1) := by decide +kernel
theorem dX9_savesNow_52 : decode cX9_savesNow 52 = .ok (.getfield 7, 3) := by decide +kernel
theorem dX9_savesNow_55 : decode cX9_savesNow 55 = .ok (.iload_n 2, 1) := by decide +kernel
theorem dX9_savesNow_56 : decode cX9_savesNow 56 = .ok (.iconst 2, 1) := by decide +kernel
theorem dX9_savesNow_57 : decode cX9_savesNow 57 = .ok (.iadd, 1) := by decide +kernel
theorem dX9_savesNow_58 : decode cX9_savesNow 58 = .ok (.dup2, 1) := by decide +kernel
theorem dX9_savesNow_59 : decode cX9_savesNow 59 = .ok (.iaload, 1) := by decide +kernel
theorem dX9_savesNow_60 : decode cX9_savesNow 60 = .ok (.iload_n 3, 1) := by decide +kernel
theorem dX9_savesNow_61 : decode cX9_savesNow 61 = .ok (.iadd, 1) := by decide +kernel
theorem dX9_savesNow_62 : decode cX9_savesNow 62 = .ok (.iastore, 1) := by decide +kernel
theorem dX9_savesNow_63 : decode cX9_savesNow 63 = .ok (.return_, 1) := by decide +kernel
set_option maxRecDepth 20000 in
theorem ggX9_goesOn_X9_growsNow : GoodIn wsX9_goesOn wsX9_growsNow := goodIn_r _ [7, 1, 2, 8, 9, 10, 6, 11, 12, 13, 14, 15, 16, 17, 18, 19, 20, 21, 38, 39, 40, 41, 42, 43, 44, 45, 46, 47, 48, 49, 50, 51, 52, 53, 54, 55, 56, 57, 58, 59, 60, 61, 62, 63, 64, 65, 66] (by decide +kernel) (by decide +kernel)
set_option maxRecDepth 20000 in
theorem gX9_goesOn_X9_growsNow : GoodIn wsX9_goesOn (wsV RX9 196 RX9 yX9_growsNow wsX9_growsNow) := goodIn_app (goodIn_of _ (by decide +kernel)) ggX9_goesOn_X9_growsNow
set_option maxRecDepth 20000 in
theorem ggX9_goesOn_X9_its : GoodIn wsX9_goesOn wsX9_its := goodIn_r _ [15, 1, 38, 39, 40, 41, 42, 43, 44, 45, 46, 47, 48, 49, 50, 51, 52, 53, 54, 55, 56, 57, 58, 59, 60, 61, 62, 63, 64, 65, 66] (by decide +kernel) (by decide +kernel)
set_option maxRecDepth 20000 in
theorem gX9_goesOn_X9_its : GoodIn wsX9_goesOn (wsV RX9 172 RX9 yX9_its wsX9_its) := goodIn_app (goodIn_of _ (by decide +kernel)) ggX9_goesOn_X9_its
set_option maxRecDepth 20000 in
theorem ggX9_goesOn_X9_saysNow : GoodIn wsX9_goesOn wsX9_saysNow := goodIn_r _ [25, 1, 12, 13, 14, 6, 15, 26, 27, 28, 29, 16, 17, 18, 19, 20, 21, 38, 39, 40, 41, 42, 43, 44, 45, 46, 47, 48, 49, 50, 51, 52, 53, 54, 55, 56, 57, 58, 59, 60, 61, 62, 63, 64, 65, 66] (by decide +kernel) (by decide +kernel)
set_option maxRecDepth 20000 in
theorem gX9_goesOn_X9_saysNow : GoodIn wsX9_goesOn (wsV RX9 199 RX9 yX9_saysNow wsX9_saysNow) := goodIn_app (goodIn_of _ (by decide +kernel)) ggX9_goesOn_X9_saysNow
set_option maxRecDepth 20000 in
theorem ggX9_goesOn_X9_least : GoodIn wsX9_goesOn wsX9_least := goodIn_r _ [21] (by decide +kernel) (by decide +kernel)
set_option maxRecDepth 20000 in
theorem gX9_goesOn_X9_least : GoodIn wsX9_goesOn (va_wsS RX9 192 yX9_least wsX9_least) := goodIn_app (goodIn_of _ (by decide +kernel)) ggX9_goesOn_X9_least
set_option maxRecDepth 20000 in
theorem ggX9_goesOn_X9_savesNow : GoodIn wsX9_goesOn wsX9_savesNow := goodIn_r _ [33, 1, 34, 35, 36, 6, 37, 12, 13, 14, 15, 19, 20, 21, 38, 39, 40, 41, 42, 43, 44, 45, 46, 47, 48, 49, 50, 51, 52, 53, 54, 55, 56, 57, 58, 59, 60, 61, 62, 63, 64, 65, 66] (by decide +kernel) (by decide +kernel)
set_option maxRecDepth 20000 in
theorem gX9_goesOn_X9_savesNow : GoodIn wsX9_goesOn (wsV RX9 202 RX9 yX9_savesNow wsX9_savesNow) := goodIn_app (goodIn_of _ (by decide +kernel)) ggX9_goesOn_X9_savesNow
theorem dX9_goesOn_0 : decode cX9_goesOn 0 = .ok (.iconst 0, 1) := by decide +kernel
theorem dX9_goesOn_1 : decode cX9_goesOn 1 = .ok (.istore_n 1, 1) := by decide +kernel
theorem dX9_goesOn_2 : decode cX9_goesOn 2 = .ok (.iload_n 1, 1) := by decide +kernel
theorem dX9_goesOn_3 : decode cX9_goesOn 3 = .ok (.aload_n 0, 1) := by decide +kernel
theorem dX9_goesOn_4 : decode cX9_goesOn 4 = .ok (.getfield 7, 3) := by decide +kernel
theorem dX9_goesOn_7 : decode cX9_goesOn 7 = .ok (.iconst 0, 1) := by decide +kernel
theorem dX9_goesOn_8 : decode cX9_goesOn 8 = .ok (.iaload, 1) := by decide +kernel
theorem dX9_goesOn_9 : decode cX9_goesOn 9 = .ok (.if_icmp .ge 14, 3) := by decide +kernel
theorem dX9_goesOn_12 : decode cX9_goesOn 12 = .ok (.aload_n 0, 1) := by decide +kernel
theorem dX9_goesOn_13 : decode cX9_goesOn 13 = .ok (.iload_n 1, 1) := by decide +kernel
theorem dX9_goesOn_14 : decode cX9_goesOn 14 = .ok (.invokevirtual 196, 3) := by decide +kernel
theorem dX9_goesOn_17 : decode cX9_goesOn 17 = .ok (.iinc 1 1, 3) := by decide +kernel
theorem dX9_goesOn_20 : decode cX9_goesOn 20 = .ok (.goto (-18), 3) := by decide +kernel
theorem dX9_goesOn_23 : decode cX9_goesOn 23 = .ok (.iconst 0, 1) := by decide +kernel
theorem dX9_goesOn_24 : decode cX9_goesOn 24 = .ok (.istore_n 1, 1) := by decide +kernel
theorem dX9_goesOn_25 : decode cX9_goesOn 25 = .ok (.iconst 0, 1) := by decide +kernel
theorem dX9_goesOn_26 : decode cX9_goesOn 26 = .ok (.istore_n 2, 1) := by decide +kernel
theorem dX9_goesOn_27 : decode cX9_goesOn 27 = .ok (.iload_n 2, 1) := by decide +kernel
theorem dX9_goesOn_28 : decode cX9_goesOn 28 = .ok (.aload_n 0, 1) := by decide +kernel
theorem dX9_goesOn_29 : decode cX9_goesOn 29 = .ok (.getfield 7, 3) := by decide +kernel
theorem dX9_goesOn_32 : decode cX9_goesOn 32 = .ok (.iconst 0, 1) := by decide +kernel
theorem dX9_goesOn_33 : decode cX9_goesOn 33 = .ok (.iaload, 1) := by decide +kernel
theorem dX9_goesOn_34 : decode cX9_goesOn 34 = .ok (.if_icmp .ge 31, 3) := by decide +kernel
theorem dX9_goesOn_37 : decode cX9_goesOn 37 = .ok (.iload_n 1, 1) := by decide +kernel
theorem dX9_goesOn_38 : decode cX9_goesOn 38 = .ok (.aload_n 0, 1) := by decide +kernel
theorem dX9_goesOn_39 : decode cX9_goesOn 39 = .ok (.iload_n 2, 1) := by decide +kernel
theorem dX9_goesOn_40 : decode cX9_goesOn 40 = .ok (.iconst 5, 1) := by decide +kernel
theorem dX9_goesOn_41 : decode cX9_goesOn 41 = .ok (.invokevirtual 172, 3) := by decide +kernel
theorem dX9_goesOn_44 : decode cX9_goesOn 44 = .ok (.iconst 1, 1) := by decide +kernel
theorem dX9_goesOn_45 : decode cX9_goesOn 45 = .ok (.if_icmp .ne 11, 3) := by decide +kernel
theorem dX9_goesOn_48 : decode cX9_goesOn 48 = .ok (.aload_n 0, 1) := by decide +kernel
theorem dX9_goesOn_49 : decode cX9_goesOn 49 = .ok (.iload_n 2, 1) := by decide +kernel
theorem dX9_goesOn_50 : decode cX9_goesOn 50 = .ok (.invokevirtual 199, 3) := by decide +kernel
theorem dX9_goesOn_53 : decode cX9_goesOn 53 = .ok (.goto 4, 3) := by decide +kernel
theorem dX9_goesOn_56 : decode cX9_goesOn 56 = .ok (.iconst 0, 1) := by decide +kernel
theorem dX9_goesOn_57 : decode cX9_goesOn 57 = .ok (.iadd, 1) := by decide +kernel
theorem dX9_goesOn_58 : decode cX9_goesOn 58 = .ok (.istore_n 1, 1) := by decide +kernel
theorem dX9_goesOn_59 : decode cX9_goesOn 59 = .ok (.iinc 2 1, 3) := by decide +kernel
theorem dX9_goesOn_62 : decode cX9_goesOn 62 = .ok (.goto (-35), 3) := by decide +kernel
theorem dX9_goesOn_65 : decode cX9_goesOn 65 = .ok (.aload_n 0, 1) := by decide +kernel
theorem dX9_goesOn_66 : decode cX9_goesOn 66 = .ok (.getfield 7, 3) := by decide +kernel
theorem dX9_goesOn_69 : decode cX9_goesOn 69 = .ok (.iconst 3, 1) := by decide +kernel
theorem dX9_goesOn_70 : decode cX9_goesOn 70 = .ok (.ldc 195, 2) := by decide +kernel
theorem dX9_goesOn_72 : decode cX9_goesOn 72 = .ok (.aload_n 0, 1) := by decide +kernel
theorem dX9_goesOn_73 : decode cX9_goesOn 73 = .ok (.getfield 7, 3) := by decide +kernel
theorem dX9_goesOn_76 : decode cX9_goesOn 76 = .ok (.iconst 3, 1) := by decide +kernel
theorem dX9_goesOn_77 : decode cX9_goesOn 77 = .ok (.iaload, 1) := by decide +kernel
theorem dX9_goesOn_78 : decode cX9_goesOn 78 = .ok (.iload_n 1, 1) := by decide +kernel
theorem dX9_goesOn_79 : decode cX9_goesOn 79 = .ok (.iadd, 1) := by decide +kernel
theorem dX9_goesOn_80 : decode cX9_goesOn 80 = .ok (.invokestatic 192, 3) := by decide +kernel
theorem dX9_goesOn_83 : decode cX9_goesOn 83 = .ok (.iastore, 1) := by decide +kernel
theorem dX9_goesOn_84 : decode cX9_goesOn 84 = .ok (.iconst 0, 1) := by decide +kernel
theorem dX9_goesOn_85 : decode cX9_goesOn 85 = .ok (.istore_n 2, 1) := by decide +kernel
theorem dX9_goesOn_86 : decode cX9_goesOn 86 = .ok (.iload_n 2, 1) := by decide +kernel
theorem dX9_goesOn_87 : decode cX9_goesOn 87 = .ok (.aload_n 0, 1) := by decide +kernel
theorem dX9_goesOn_88 : decode cX9_goesOn 88 = .ok (.getfield 7, 3) := by decide +kernel
theorem dX9_goesOn_91 : decode cX9_goesOn 91 = .ok (.iconst 0, 1) := by decide +kernel
theorem dX9_goesOn_92 : decode cX9_goesOn 92 = .ok (.iaload, 1) := by decide +kernel
theorem dX9_goesOn_93 : decode cX9_goesOn 93 = .ok (.if_icmp .ge 23, 3) := by decide +kernel
theorem dX9_goesOn_96 : decode cX9_goesOn 96 = .ok (.aload_n 0, 1) := by decide +kernel
theorem dX9_goesOn_97 : decode cX9_goesOn 97 = .ok (.iload_n 2, 1) := by decide +kernel
theorem dX9_goesOn_98 : decode cX9_goesOn 98 = .ok (.iconst 5, 1) := by decide +kernel
theorem dX9_goesOn_99 : decode cX9_goesOn 99 = .ok (.invokevirtual 172, 3) := by decide +kernel
theorem dX9_goesOn_102 : decode cX9_goesOn 102 = .ok (.ifCond .ne 8, 3) := by decide +kernel
theorem dX9_goesOn_105 : decode cX9_goesOn 105 = .ok (.aload_n 0, 1) := by decide +kernel
theorem dX9_goesOn_106 : decode cX9_goesOn 106 = .ok (.iload_n 2, 1) := by decide +kernel
theorem dX9_goesOn_107 : decode cX9_goesOn 107 = .ok (.invokevirtual 202, 3) := by decide +kernel
theorem dX9_goesOn_110 : decode cX9_goesOn 110 = .ok (.iinc 2 1, 3) := by decide +kernel
theorem dX9_goesOn_113 : decode cX9_goesOn 113 = .ok (.goto (-27), 3) := by decide +kernel
theorem dX9_goesOn_116 : decode cX9_goesOn 116 = .ok (.iconst 0, 1) := by decide +kernel
theorem dX9_goesOn_117 : decode cX9_goesOn 117 = .ok (.istore_n 2, 1) := by decide +kernel
theorem dX9_goesOn_118 : decode cX9_goesOn 118 = .ok (.iload_n 2, 1) := by decide +kernel
theorem dX9_goesOn_119 : decode cX9_goesOn 119 = .ok (.aload_n 0, 1) := by decide +kernel
theorem dX9_goesOn_120 : decode cX9_goesOn 120 = .ok (.getfield 7, 3) := by decide +kernel
theorem dX9_goesOn_123 : decode cX9_goesOn 123 = .ok (.iconst 0, 1) := by decide +kernel
theorem dX9_goesOn_124 : decode cX9_goesOn 124 = .ok (.iaload, 1) := by decide +kernel
theorem dX9_goesOn_125 : decode cX9_goesOn 125 = .ok (.if_icmp .ge 44, 3) := by decide +kernel
theorem dX9_goesOn_128 : decode cX9_goesOn 128 = .ok (.aload_n 0, 1) := by decide +kernel
theorem dX9_goesOn_129 : decode cX9_goesOn 129 = .ok (.getfield 7, 3) := by decide +kernel
theorem dX9_goesOn_132 : decode cX9_goesOn 132 = .ok (.bipush 9, 2) := by decide +kernel
theorem dX9_goesOn_134 : decode cX9_goesOn 134 = .ok (.bipush 6, 2) := by decide +kernel
theorem dX9_goesOn_136 : decode cX9_goesOn 136 = .ok (.iload_n 2, 1) := by decide +kernel
theorem dX9_goesOn_137 : decode cX9_goesOn 137 = .ok (.imul, 1) := by decide +kernel
theorem dX9_goesOn_138 : decode cX9_goesOn 138 = .ok (.iadd, 1) := by decide +kernel
theorem dX9_goesOn_139 : decode cX9_goesOn 139 = .ok (.iconst 5, 1) := by decide +kernel
theorem dX9_goesOn_140 : decode cX9_goesOn 140 = .ok (.iadd, 1) := by decide +kernel
theorem dX9_goesOn_141 : decode cX9_goesOn 141 = .ok (.aload_n 0, 1) := by decide +kernel
theorem dX9_goesOn_142 : decode cX9_goesOn 142 = .ok (.iload_n 2, 1) := by decide +kernel
theorem dX9_goesOn_143 : decode cX9_goesOn 143 = .ok (.iconst 4, 1) := by decide +kernel
theorem dX9_goesOn_144 : decode cX9_goesOn 144 = .ok (.invokevirtual 172, 3) := by decide +kernel
theorem dX9_goesOn_147 : decode cX9_goesOn 147 = .ok (.ifCond .le 14, 3) := by decide +kernel
theorem dX9_goesOn_150 : decode cX9_goesOn 150 = .ok (.iconst 1, 1) := by decide +kernel
theorem dX9_goesOn_151 : decode cX9_goesOn 151 = .ok (.aload_n 0, 1) := by decide +kernel
theorem dX9_goesOn_152 : decode cX9_goesOn 152 = .ok (.iload_n 2, 1) := by decide +kernel
theorem dX9_goesOn_153 : decode cX9_goesOn 153 = .ok (.iconst 5, 1) := by decide +kernel
theorem dX9_goesOn_154 : decode cX9_goesOn 154 = .ok (.invokevirtual 172, 3) := by decide +kernel
theorem dX9_goesOn_157 : decode cX9_goesOn 157 = .ok (.isub, 1) := by decide +kernel
theorem dX9_goesOn_158 : decode cX9_goesOn 158 = .ok (.goto 4, 3) := by decide +kernel
theorem dX9_goesOn_161 : decode cX9_goesOn 161 = .ok (.iconst 1, 1) := by decide +kernel
theorem dX9_goesOn_162 : decode cX9_goesOn 162 = .ok (.iastore, 1) := by decide +kernel
theorem dX9_goesOn_163 : decode cX9_goesOn 163 = .ok (.iinc 2 1, 3) := by decide +kernel
theorem dX9_goesOn_166 : decode cX9_goesOn 166 = .ok (.goto (-48), 3) := by decide +kernel
theorem dX9_goesOn_169 : decode cX9_goesOn 169 = .ok (.aload_n 0, 1) := by decide +kernel
theorem dX9_goesOn_170 : decode cX9_goesOn 170 = .ok (.getfield 7, 3) := by decide +kernel
theorem dX9_goesOn_173 : decode cX9_goesOn 173 = .ok (.iconst 1, 1) := by decide +kernel
theorem dX9_goesOn_174 : decode cX9_goesOn 174 = .ok (.dup2, 1) := by decide +kernel
theorem dX9_goesOn_175 : decode cX9_goesOn 175 = .ok (.iaload, 1) := by decide +kernel
theorem dX9_goesOn_176 : decode cX9_goesOn 176 = .ok (.iconst 1, 1) := by decide +kernel
theorem dX9_goesOn_177 : decode cX9_goesOn 177 = .ok (.iadd, 1) := by decide +kernel
theorem dX9_goesOn_178 : decode cX9_goesOn 178 = .ok (.iastore, 1) := by decide +kernel
theorem dX9_goesOn_179 : decode cX9_goesOn 179 = .ok (.iload_n 1, 1) := by decide +kernel
theorem dX9_goesOn_180 : decode cX9_goesOn 180 = .ok (.ireturn, 1) := by decide +kernel
set_option maxRecDepth 20000 in
theorem ggX9_days_X9_isIn : GoodIn wsX9_days wsX9_isIn := goodIn_r _ [6] (by decide +kernel) (by decide +kernel)
set_option maxRecDepth 20000 in
theorem gX9_days_X9_isIn : GoodIn wsX9_days (va_wsS RX9 60 yX9_isIn wsX9_isIn) := goodIn_app (goodIn_of _ (by decide +kernel)) ggX9_days_X9_isIn
set_option maxRecDepth 20000 in
theorem ggX9_days_X9_goesOn : GoodIn wsX9_days wsX9_goesOn := goodIn_r _ [10, 2, 11, 12, 13, 14, 5, 15, 16, 17, 18, 19, 20, 21, 22, 23, 24, 25, 26, 27, 28, 29, 30, 31, 32, 33, 34, 35, 36, 37, 38, 39, 40, 41, 42, 43, 44, 45, 46, 47, 48, 49, 50, 51, 52, 53, 54, 55, 56, 57, 58, 59, 60, 61, 62, 63, 64, 65, 66, 67, 68, 69, 70, 71, 72, 73, 74] (by decide +kernel) (by decide +kernel)
set_option maxRecDepth 20000 in
theorem gX9_days_X9_goesOn : GoodIn wsX9_days (wsV RX9 207 RX9 yX9_goesOn wsX9_goesOn) := goodIn_app (goodIn_of _ (by decide +kernel)) ggX9_days_X9_goesOn
theorem dX9_days_0 : decode cX9_days 0 = .ok (.iload_n 1, 1) := by decide +kernel
theorem dX9_days_1 : decode cX9_days 1 = .ok (.i2l, 1) := by decide +kernel
theorem dX9_days_2 : decode cX9_days 2 = .ok (.lconst 1, 1) := by decide +kernel
theorem dX9_days_3 : decode cX9_days 3 = .ok (.ldc2_w 205, 3) := by decide +kernel
theorem dX9_days_6 : decode cX9_days 6 = .ok (.invokestatic 60, 3) := by decide +kernel
theorem dX9_days_9 : decode cX9_days 9 = .ok (.ifCond .ne 5, 3) := by decide +kernel
theorem dX9_days_12 : decode cX9_days 12 = .ok (.iconst (-1), 1) := by decide +kernel
theorem dX9_days_13 : decode cX9_days 13 = .ok (.ireturn, 1) := by decide +kernel
theorem dX9_days_14 : decode cX9_days 14 = .ok (.iconst 0, 1) := by decide +kernel
theorem dX9_days_15 : decode cX9_days 15 = .ok (.istore_n 2, 1) := by decide +kernel
theorem dX9_days_16 : decode cX9_days 16 = .ok (.iload_n 2, 1) := by decide +kernel
theorem dX9_days_17 : decode cX9_days 17 = .ok (.iload_n 1, 1) := by decide +kernel
theorem dX9_days_18 : decode cX9_days 18 = .ok (.if_icmp .ge 14, 3) := by decide +kernel
theorem dX9_days_21 : decode cX9_days 21 = .ok (.aload_n 0, 1) := by decide +kernel
theorem dX9_days_22 : decode cX9_days 22 = .ok (.invokevirtual 207, 3) := by decide +kernel
theorem dX9_days_25 : decode cX9_days 25 = .ok (.istore_n 3, 1) := by decide +kernel
theorem dX9_days_26 : decode cX9_days 26 = .ok (.iinc 2 1, 3) := by decide +kernel
theorem dX9_days_29 : decode cX9_days 29 = .ok (.goto (-13), 3) := by decide +kernel
theorem dX9_days_32 : decode cX9_days 32 = .ok (.aload_n 0, 1) := by decide +kernel
theorem dX9_days_33 : decode cX9_days 33 = .ok (.getfield 7, 3) := by decide +kernel
theorem dX9_days_36 : decode cX9_days 36 = .ok (.iconst 3, 1) := by decide +kernel
theorem dX9_days_37 : decode cX9_days 37 = .ok (.iaload, 1) := by decide +kernel
theorem dX9_days_38 : decode cX9_days 38 = .ok (.ireturn, 1) := by decide +kernel
set_option maxRecDepth 20000 in
theorem ggX9_seed_X9_becomes : GoodIn wsX9_seed wsX9_becomes := goodIn_r _ [5, 6, 7, 8, 9, 10, 11, 12, 13, 14, 15, 16, 17, 18, 19, 20, 21, 22, 23, 24, 25, 26, 27, 28, 29, 30, 31, 32, 33, 34, 35] (by decide +kernel) (by decide +kernel)
set_option maxRecDepth 20000 in
theorem gX9_seed_X9_becomes : GoodIn wsX9_seed (wsV RX9 166 RX9 yX9_becomes wsX9_becomes) := goodIn_app (goodIn_of _ (by decide +kernel)) ggX9_seed_X9_becomes
theorem dX9_seed_0 : decode cX9_seed 0 = .ok (.aload_n 0, 1) := by decide +kernel
theorem dX9_seed_1 : decode cX9_seed 1 = .ok (.iconst 2, 1) := by decide +kernel
theorem dX9_seed_2 : decode cX9_seed 2 = .ok (.iload_n 1, 1) := by decide +kernel
theorem dX9_seed_3 : decode cX9_seed 3 = .ok (.invokevirtual 166, 3) := by decide +kernel
theorem dX9_seed_6 : decode cX9_seed 6 = .ok (.ireturn, 1) := by decide +kernel
theorem dX9_drawn_0 : decode cX9_drawn 0 = .ok (.aload_n 0, 1) := by decide +kernel
theorem dX9_drawn_1 : decode cX9_drawn 1 = .ok (.getfield 7, 3) := by decide +kernel
theorem dX9_drawn_4 : decode cX9_drawn 4 = .ok (.iconst 2, 1) := by decide +kernel
theorem dX9_drawn_5 : decode cX9_drawn 5 = .ok (.aload_n 0, 1) := by decide +kernel
theorem dX9_drawn_6 : decode cX9_drawn 6 = .ok (.getfield 7, 3) := by decide +kernel
theorem dX9_drawn_9 : decode cX9_drawn 9 = .ok (.iconst 2, 1) := by decide +kernel
theorem dX9_drawn_10 : decode cX9_drawn 10 = .ok (.iaload, 1) := by decide +kernel
theorem dX9_drawn_11 : decode cX9_drawn 11 = .ok (.ldc 210, 2) := by decide +kernel
theorem dX9_drawn_13 : decode cX9_drawn 13 = .ok (.imul, 1) := by decide +kernel
theorem dX9_drawn_14 : decode cX9_drawn 14 = .ok (.sipush 12345, 3) := by decide +kernel
theorem dX9_drawn_17 : decode cX9_drawn 17 = .ok (.iadd, 1) := by decide +kernel
theorem dX9_drawn_18 : decode cX9_drawn 18 = .ok (.iastore, 1) := by decide +kernel
theorem dX9_drawn_19 : decode cX9_drawn 19 = .ok (.aload_n 0, 1) := by decide +kernel
theorem dX9_drawn_20 : decode cX9_drawn 20 = .ok (.getfield 7, 3) := by decide +kernel
theorem dX9_drawn_23 : decode cX9_drawn 23 = .ok (.iconst 2, 1) := by decide +kernel
theorem dX9_drawn_24 : decode cX9_drawn 24 = .ok (.iaload, 1) := by decide +kernel
theorem dX9_drawn_25 : decode cX9_drawn 25 = .ok (.bipush 16, 2) := by decide +kernel
theorem dX9_drawn_27 : decode cX9_drawn 27 = .ok (.iushr, 1) := by decide +kernel
theorem dX9_drawn_28 : decode cX9_drawn 28 = .ok (.ireturn, 1) := by decide +kernel
set_option maxRecDepth 20000 in
theorem ggX9_day_X9_drawn : GoodIn wsX9_day wsX9_drawn := goodIn_r _ [6, 1, 7, 55, 56, 57, 58, 59, 60, 61, 62, 63, 64, 65, 66, 67, 68, 69, 70, 71, 72, 73, 74, 75, 76, 77, 78, 79, 80, 81, 82, 83] (by decide +kernel) (by decide +kernel)
set_option maxRecDepth 20000 in
theorem gX9_day_X9_drawn : GoodIn wsX9_day (wsV RX9 211 RX9 yX9_drawn wsX9_drawn) := goodIn_app (goodIn_of _ (by decide +kernel)) ggX9_day_X9_drawn
set_option maxRecDepth 20000 in
theorem ggX9_day_X9_leaves : GoodIn wsX9_day wsX9_leaves := goodIn_r _ [11, 1, 12, 13, 14, 5, 15, 55, 56, 57, 58, 59, 60, 61, 62, 63, 64, 65, 66, 67, 68, 69, 70, 71, 72, 73, 74, 75, 76, 77, 78, 79, 80, 81, 82, 83] (by decide +kernel) (by decide +kernel)
set_option maxRecDepth 20000 in
theorem gX9_day_X9_leaves : GoodIn wsX9_day (wsV RX9 189 RX9 yX9_leaves wsX9_leaves) := goodIn_app (goodIn_of _ (by decide +kernel)) ggX9_day_X9_leaves
set_option maxRecDepth 20000 in
theorem ggX9_day_X9_pairs : GoodIn wsX9_day wsX9_pairs := goodIn_r _ [19, 1, 8, 9, 10, 5, 11, 12, 13, 14, 15, 55, 56, 57, 58, 59, 60, 61, 62, 63, 64, 65, 66, 67, 68, 69, 70, 71, 72, 73, 74, 75, 76, 77, 78, 79, 80, 81, 82, 83] (by decide +kernel) (by decide +kernel)
set_option maxRecDepth 20000 in
theorem gX9_day_X9_pairs : GoodIn wsX9_day (wsV RX9 133 RX9 yX9_pairs wsX9_pairs) := goodIn_app (goodIn_of _ (by decide +kernel)) ggX9_day_X9_pairs
set_option maxRecDepth 20000 in
theorem ggX9_day_X9_goesOn : GoodIn wsX9_day wsX9_goesOn := goodIn_r _ [23, 1, 24, 25, 26, 27, 5, 28, 29, 30, 31, 32, 12, 13, 14, 15, 33, 34, 35, 36, 37, 38, 39, 40, 41, 42, 43, 44, 45, 46, 47, 48, 49, 50, 51, 52, 53, 54, 55, 56, 57, 58, 59, 60, 61, 62, 63, 64, 65, 66, 67, 68, 69, 70, 71, 72, 73, 74, 75, 76, 77, 78, 79, 80, 81, 82, 83] (by decide +kernel) (by decide +kernel)
set_option maxRecDepth 20000 in
theorem gX9_day_X9_goesOn : GoodIn wsX9_day (wsV RX9 207 RX9 yX9_goesOn wsX9_goesOn) := goodIn_app (goodIn_of _ (by decide +kernel)) ggX9_day_X9_goesOn
theorem dX9_day_0 : decode cX9_day 0 = .ok (.aload_n 0, 1) := by decide +kernel
theorem dX9_day_1 : decode cX9_day 1 = .ok (.getfield 7, 3) := by decide +kernel
theorem dX9_day_4 : decode cX9_day 4 = .ok (.iconst 0, 1) := by decide +kernel
theorem dX9_day_5 : decode cX9_day 5 = .ok (.iaload, 1) := by decide +kernel
theorem dX9_day_6 : decode cX9_day 6 = .ok (.ifCond .le 63, 3) := by decide +kernel
theorem dX9_day_9 : decode cX9_day 9 = .ok (.aload_n 0, 1) := by decide +kernel
theorem dX9_day_10 : decode cX9_day 10 = .ok (.invokevirtual 211, 3) := by decide +kernel
theorem dX9_day_13 : decode cX9_day 13 = .ok (.aload_n 0, 1) := by decide +kernel
theorem dX9_day_14 : decode cX9_day 14 = .ok (.getfield 7, 3) := by decide +kernel
theorem dX9_day_17 : decode cX9_day 17 = .ok (.iconst 0, 1) := by decide +kernel
theorem dX9_day_18 : decode cX9_day 18 = .ok (.iaload, 1) := by decide +kernel
theorem dX9_day_19 : decode cX9_day 19 = .ok (.irem, 1) := by decide +kernel
theorem dX9_day_20 : decode cX9_day 20 = .ok (.istore_n 1, 1) := by decide +kernel
theorem dX9_day_21 : decode cX9_day 21 = .ok (.aload_n 0, 1) := by decide +kernel
theorem dX9_day_22 : decode cX9_day 22 = .ok (.invokevirtual 211, 3) := by decide +kernel
theorem dX9_day_25 : decode cX9_day 25 = .ok (.bipush 100, 2) := by decide +kernel
theorem dX9_day_27 : decode cX9_day 27 = .ok (.irem, 1) := by decide +kernel
theorem dX9_day_28 : decode cX9_day 28 = .ok (.aload_n 0, 1) := by decide +kernel
theorem dX9_day_29 : decode cX9_day 29 = .ok (.getfield 7, 3) := by decide +kernel
theorem dX9_day_32 : decode cX9_day 32 = .ok (.bipush 8, 2) := by decide +kernel
theorem dX9_day_34 : decode cX9_day 34 = .ok (.iaload, 1) := by decide +kernel
theorem dX9_day_35 : decode cX9_day 35 = .ok (.if_icmp .ge 34, 3) := by decide +kernel
theorem dX9_day_38 : decode cX9_day 38 = .ok (.aload_n 0, 1) := by decide +kernel
theorem dX9_day_39 : decode cX9_day 39 = .ok (.invokevirtual 211, 3) := by decide +kernel
theorem dX9_day_42 : decode cX9_day 42 = .ok (.aload_n 0, 1) := by decide +kernel
theorem dX9_day_43 : decode cX9_day 43 = .ok (.getfield 7, 3) := by decide +kernel
theorem dX9_day_46 : decode cX9_day 46 = .ok (.iconst 0, 1) := by decide +kernel
theorem dX9_day_47 : decode cX9_day 47 = .ok (.iaload, 1) := by decide +kernel
theorem dX9_day_48 : decode cX9_day 48 = .ok (.irem, 1) := by decide +kernel
theorem dX9_day_49 : decode cX9_day 49 = .ok (.istore_n 2, 1) := by decide +kernel
theorem dX9_day_50 : decode cX9_day 50 = .ok (.iload_n 2, 1) := by decide +kernel
theorem dX9_day_51 : decode cX9_day 51 = .ok (.iload_n 1, 1) := by decide +kernel
theorem dX9_day_52 : decode cX9_day 52 = .ok (.if_icmp .ne 11, 3) := by decide +kernel
theorem dX9_day_55 : decode cX9_day 55 = .ok (.aload_n 0, 1) := by decide +kernel
theorem dX9_day_56 : decode cX9_day 56 = .ok (.iload_n 1, 1) := by decide +kernel
theorem dX9_day_57 : decode cX9_day 57 = .ok (.invokevirtual 189, 3) := by decide +kernel
theorem dX9_day_60 : decode cX9_day 60 = .ok (.goto 9, 3) := by decide +kernel
theorem dX9_day_63 : decode cX9_day 63 = .ok (.aload_n 0, 1) := by decide +kernel
theorem dX9_day_64 : decode cX9_day 64 = .ok (.iload_n 1, 1) := by decide +kernel
theorem dX9_day_65 : decode cX9_day 65 = .ok (.iload_n 2, 1) := by decide +kernel
theorem dX9_day_66 : decode cX9_day 66 = .ok (.invokevirtual 133, 3) := by decide +kernel
theorem dX9_day_69 : decode cX9_day 69 = .ok (.aload_n 0, 1) := by decide +kernel
theorem dX9_day_70 : decode cX9_day 70 = .ok (.invokevirtual 207, 3) := by decide +kernel
theorem dX9_day_73 : decode cX9_day 73 = .ok (.ireturn, 1) := by decide +kernel
set_option maxRecDepth 20000 in
theorem ggX9_luck_X9_isIn : GoodIn wsX9_luck wsX9_isIn := goodIn_r _ [7] (by decide +kernel) (by decide +kernel)
set_option maxRecDepth 20000 in
theorem gX9_luck_X9_isIn : GoodIn wsX9_luck (va_wsS RX9 60 yX9_isIn wsX9_isIn) := goodIn_app (goodIn_of _ (by decide +kernel)) ggX9_luck_X9_isIn
set_option maxRecDepth 20000 in
theorem ggX9_luck_X9_copyRow : GoodIn wsX9_luck wsX9_copyRow := goodIn_r _ [10] (by decide +kernel) (by decide +kernel)
set_option maxRecDepth 20000 in
theorem gX9_luck_X9_copyRow : GoodIn wsX9_luck (va_wsS RX9 150 yX9_copyRow wsX9_copyRow) := goodIn_app (goodIn_of _ (by decide +kernel)) ggX9_luck_X9_copyRow
set_option maxRecDepth 20000 in
theorem ggX9_luck_X9_goesOn : GoodIn wsX9_luck wsX9_goesOn := goodIn_r _ [14, 2, 15, 16, 17, 18, 6, 19, 20, 21, 22, 23, 24, 25, 26, 27, 28, 29, 30, 31, 32, 33, 34, 35, 36, 37, 38, 39, 40, 41, 42, 43, 44, 45, 46, 47, 48, 49, 67, 68, 69, 70, 71, 72, 73, 74, 75, 76, 77, 78, 79, 80, 81, 82, 83, 84, 85, 86, 87, 88, 89, 90, 91, 92, 93, 94, 95] (by decide +kernel) (by decide +kernel)
set_option maxRecDepth 20000 in
theorem gX9_luck_X9_goesOn : GoodIn wsX9_luck (wsV RX9 207 RX9 yX9_goesOn wsX9_goesOn) := goodIn_app (goodIn_of _ (by decide +kernel)) ggX9_luck_X9_goesOn
set_option maxRecDepth 20000 in
theorem ggX9_luck_X9_day : GoodIn wsX9_luck wsX9_day := goodIn_r _ [53, 2, 54, 55, 56, 6, 57, 58, 59, 60, 61, 62, 24, 25, 26, 27, 63, 64, 65, 66, 11, 12, 13, 14, 15, 16, 17, 18, 19, 20, 21, 22, 23, 28, 29, 30, 31, 32, 33, 34, 35, 36, 37, 38, 39, 40, 41, 42, 43, 44, 45, 46, 47, 48, 49, 67, 68, 69, 70, 71, 72, 73, 74, 75, 76, 77, 78, 79, 80, 81, 82, 83, 84, 85, 86, 87, 88, 89, 90, 91, 92, 93, 94, 95] (by decide +kernel) (by decide +kernel)
set_option maxRecDepth 20000 in
theorem gX9_luck_X9_day : GoodIn wsX9_luck (wsV RX9 216 RX9 yX9_day wsX9_day) := goodIn_app (goodIn_of _ (by decide +kernel)) ggX9_luck_X9_day
theorem dX9_luck_0 : decode cX9_luck 0 = .ok (.iload_n 1, 1) := by decide +kernel
theorem dX9_luck_1 : decode cX9_luck 1 = .ok (.i2l, 1) := by decide +kernel
theorem dX9_luck_2 : decode cX9_luck 2 = .ok (.lconst 1, 1) := by decide +kernel
theorem dX9_luck_3 : decode cX9_luck 3 = .ok (.ldc2_w 214, 3) := by decide +kernel
theorem dX9_luck_6 : decode cX9_luck 6 = .ok (.invokestatic 60, 3) := by decide +kernel
theorem dX9_luck_9 : decode cX9_luck 9 = .ok (.ifCond .ne 5, 3) := by decide +kernel
theorem dX9_luck_12 : decode cX9_luck 12 = .ok (.iconst (-1), 1) := by decide +kernel
theorem dX9_luck_13 : decode cX9_luck 13 = .ok (.ireturn, 1) := by decide +kernel
theorem dX9_luck_14 : decode cX9_luck 14 = .ok (.aload_n 0, 1) := by decide +kernel
theorem dX9_luck_15 : decode cX9_luck 15 = .ok (.getfield 7, 3) := by decide +kernel
theorem dX9_luck_18 : decode cX9_luck 18 = .ok (.aload_n 0, 1) := by decide +kernel
theorem dX9_luck_19 : decode cX9_luck 19 = .ok (.getfield 16, 3) := by decide +kernel
theorem dX9_luck_22 : decode cX9_luck 22 = .ok (.invokestatic 150, 3) := by decide +kernel
theorem dX9_luck_25 : decode cX9_luck 25 = .ok (.aload_n 0, 1) := by decide +kernel
theorem dX9_luck_26 : decode cX9_luck 26 = .ok (.invokevirtual 207, 3) := by decide +kernel
theorem dX9_luck_29 : decode cX9_luck 29 = .ok (.istore_n 2, 1) := by decide +kernel
theorem dX9_luck_30 : decode cX9_luck 30 = .ok (.aload_n 0, 1) := by decide +kernel
theorem dX9_luck_31 : decode cX9_luck 31 = .ok (.getfield 16, 3) := by decide +kernel
theorem dX9_luck_34 : decode cX9_luck 34 = .ok (.iconst 2, 1) := by decide +kernel
theorem dX9_luck_35 : decode cX9_luck 35 = .ok (.iaload, 1) := by decide +kernel
theorem dX9_luck_36 : decode cX9_luck 36 = .ok (.istore_n 3, 1) := by decide +kernel
theorem dX9_luck_37 : decode cX9_luck 37 = .ok (.iconst 0, 1) := by decide +kernel
theorem dX9_luck_38 : decode cX9_luck 38 = .ok (.istore 4, 2) := by decide +kernel
theorem dX9_luck_40 : decode cX9_luck 40 = .ok (.iconst 0, 1) := by decide +kernel
theorem dX9_luck_41 : decode cX9_luck 41 = .ok (.istore 5, 2) := by decide +kernel
theorem dX9_luck_43 : decode cX9_luck 43 = .ok (.iload 5, 2) := by decide +kernel
theorem dX9_luck_45 : decode cX9_luck 45 = .ok (.iload_n 1, 1) := by decide +kernel
theorem dX9_luck_46 : decode cX9_luck 46 = .ok (.if_icmp .ge 52, 3) := by decide +kernel
theorem dX9_luck_49 : decode cX9_luck 49 = .ok (.aload_n 0, 1) := by decide +kernel
theorem dX9_luck_50 : decode cX9_luck 50 = .ok (.getfield 16, 3) := by decide +kernel
theorem dX9_luck_53 : decode cX9_luck 53 = .ok (.aload_n 0, 1) := by decide +kernel
theorem dX9_luck_54 : decode cX9_luck 54 = .ok (.getfield 7, 3) := by decide +kernel
theorem dX9_luck_57 : decode cX9_luck 57 = .ok (.invokestatic 150, 3) := by decide +kernel
theorem dX9_luck_60 : decode cX9_luck 60 = .ok (.aload_n 0, 1) := by decide +kernel
theorem dX9_luck_61 : decode cX9_luck 61 = .ok (.getfield 7, 3) := by decide +kernel
theorem dX9_luck_64 : decode cX9_luck 64 = .ok (.iconst 2, 1) := by decide +kernel
theorem dX9_luck_65 : decode cX9_luck 65 = .ok (.iload_n 3, 1) := by decide +kernel
theorem dX9_luck_66 : decode cX9_luck 66 = .ok (.iastore, 1) := by decide +kernel
theorem dX9_luck_67 : decode cX9_luck 67 = .ok (.iload 4, 2) := by decide +kernel
theorem dX9_luck_69 : decode cX9_luck 69 = .ok (.aload_n 0, 1) := by decide +kernel
theorem dX9_luck_70 : decode cX9_luck 70 = .ok (.invokevirtual 216, 3) := by decide +kernel
theorem dX9_luck_73 : decode cX9_luck 73 = .ok (.iload_n 2, 1) := by decide +kernel
theorem dX9_luck_74 : decode cX9_luck 74 = .ok (.if_icmp .le 7, 3) := by decide +kernel
theorem dX9_luck_77 : decode cX9_luck 77 = .ok (.iconst 1, 1) := by decide +kernel
theorem dX9_luck_78 : decode cX9_luck 78 = .ok (.goto 4, 3) := by decide +kernel
theorem dX9_luck_81 : decode cX9_luck 81 = .ok (.iconst 0, 1) := by decide +kernel
theorem dX9_luck_82 : decode cX9_luck 82 = .ok (.iadd, 1) := by decide +kernel
theorem dX9_luck_83 : decode cX9_luck 83 = .ok (.istore 4, 2) := by decide +kernel
theorem dX9_luck_85 : decode cX9_luck 85 = .ok (.aload_n 0, 1) := by decide +kernel
theorem dX9_luck_86 : decode cX9_luck 86 = .ok (.getfield 7, 3) := by decide +kernel
theorem dX9_luck_89 : decode cX9_luck 89 = .ok (.iconst 2, 1) := by decide +kernel
theorem dX9_luck_90 : decode cX9_luck 90 = .ok (.iaload, 1) := by decide +kernel
theorem dX9_luck_91 : decode cX9_luck 91 = .ok (.istore_n 3, 1) := by decide +kernel
theorem dX9_luck_92 : decode cX9_luck 92 = .ok (.iinc 5 1, 3) := by decide +kernel
