theorem dX0_init_0 : decode cX0_init 0 = .ok (.aload_n 0, 1) := by decide +kernel
theorem dX0_init_1 : decode cX0_init 1 = .ok (.invokespecial 3, 3) := by decide +kernel
theorem dX0_init_4 : decode cX0_init 4 = .ok (.aload_n 0, 1) := by decide +kernel
theorem dX0_init_5 : decode cX0_init 5 = .ok (.bipush 30, 2) := by decide +kernel
theorem dX0_init_7 : decode cX0_init 7 = .ok (.newarray .int, 2) := by decide +kernel
theorem dX0_init_9 : decode cX0_init 9 = .ok (.putfield 11, 3) := by decide +kernel
theorem dX0_init_12 : decode cX0_init 12 = .ok (.aload_n 0, 1) := by decide +kernel
theorem dX0_init_13 : decode cX0_init 13 = .ok (.aload_n 1, 1) := by decide +kernel
theorem dX0_init_14 : decode cX0_init 14 = .ok (.putfield 15, 3) := by decide +kernel
theorem dX0_init_17 : decode cX0_init 17 = .ok (.aload_n 0, 1) := by decide +kernel
theorem dX0_init_18 : decode cX0_init 18 = .ok (.aload_n 2, 1) := by decide +kernel
theorem dX0_init_19 : decode cX0_init 19 = .ok (.putfield 19, 3) := by decide +kernel
theorem dX0_init_22 : decode cX0_init 22 = .ok (.return_, 1) := by decide +kernel
theorem dX0_has_0 : decode cX0_has 0 = .ok (.iload_n 1, 1) := by decide +kernel
theorem dX0_has_1 : decode cX0_has 1 = .ok (.ifCond .lt 24, 3) := by decide +kernel
theorem dX0_has_4 : decode cX0_has 4 = .ok (.iload_n 1, 1) := by decide +kernel
theorem dX0_has_5 : decode cX0_has 5 = .ok (.aload_n 0, 1) := by decide +kernel
theorem dX0_has_6 : decode cX0_has 6 = .ok (.getfield 22, 3) := by decide +kernel
theorem dX0_has_9 : decode cX0_has 9 = .ok (.if_icmp .ge 16, 3) := by decide +kernel
theorem dX0_has_12 : decode cX0_has 12 = .ok (.iload_n 2, 1) := by decide +kernel
theorem dX0_has_13 : decode cX0_has 13 = .ok (.ifCond .lt 12, 3) := by decide +kernel
theorem dX0_has_16 : decode cX0_has 16 = .ok (.iload_n 2, 1) := by decide +kernel
theorem dX0_has_17 : decode cX0_has 17 = .ok (.iconst 3, 1) := by decide +kernel
theorem dX0_has_18 : decode cX0_has 18 = .ok (.if_icmp .ge 7, 3) := by decide +kernel
theorem dX0_has_21 : decode cX0_has 21 = .ok (.iconst 1, 1) := by decide +kernel
theorem dX0_has_22 : decode cX0_has 22 = .ok (.goto 4, 3) := by decide +kernel
theorem dX0_has_25 : decode cX0_has 25 = .ok (.iconst 0, 1) := by decide +kernel
theorem dX0_has_26 : decode cX0_has 26 = .ok (.ireturn, 1) := by decide +kernel
theorem dX0_placeOf_0 : decode cX0_placeOf 0 = .ok (.iload_n 1, 1) := by decide +kernel
theorem dX0_placeOf_1 : decode cX0_placeOf 1 = .ok (.iconst 3, 1) := by decide +kernel
theorem dX0_placeOf_2 : decode cX0_placeOf 2 = .ok (.imul, 1) := by decide +kernel
theorem dX0_placeOf_3 : decode cX0_placeOf 3 = .ok (.iload_n 2, 1) := by decide +kernel
theorem dX0_placeOf_4 : decode cX0_placeOf 4 = .ok (.iadd, 1) := by decide +kernel
theorem dX0_placeOf_5 : decode cX0_placeOf 5 = .ok (.ireturn, 1) := by decide +kernel
set_option maxRecDepth 20000 in
theorem ggX0_write_X6_copyFrom : GoodIn wsX0_write wsX6_copyFrom := goodIn_r _ [11, 12, 13, 14, 15, 16, 17, 18, 19, 20, 21, 22, 23, 24, 10, 25, 26, 27, 81, 82, 83, 84, 85, 86, 87, 88, 89, 90, 91, 92] (by decide +kernel) (by decide +kernel)
set_option maxRecDepth 20000 in
theorem gX0_write_X6_copyFrom : GoodIn wsX0_write (wsV RX0 26 RX6 yX6_copyFrom wsX6_copyFrom) := goodIn_app (goodIn_of _ (by decide +kernel)) ggX0_write_X6_copyFrom
set_option maxRecDepth 20000 in
theorem ggX0_write_X6_passDay : GoodIn wsX0_write wsX6_passDay := goodIn_r _ [31, 32, 12, 33, 34, 35, 36, 27, 37, 38, 39, 10, 40, 15, 17, 41, 42, 43, 13, 44, 45, 46, 47, 26, 16, 19, 48, 49, 50, 51, 21, 20, 52, 53, 54, 55, 56, 57, 58, 59, 18, 60, 61, 62, 63, 64, 65, 66, 67, 68, 69, 70, 71, 81, 82, 83, 84, 85, 86, 87, 88, 89, 90, 91, 92] (by decide +kernel) (by decide +kernel)
set_option maxRecDepth 20000 in
theorem gX0_write_X6_passDay : GoodIn wsX0_write (wsV RX0 32 RX6 yX6_passDay wsX6_passDay) := goodIn_app (goodIn_of _ (by decide +kernel)) ggX0_write_X6_passDay
set_option maxRecDepth 20000 in
theorem ggX0_write_X0_placeOf : GoodIn wsX0_write wsX0_placeOf := goodIn_r _ [76] (by decide +kernel) (by decide +kernel)
set_option maxRecDepth 20000 in
theorem gX0_write_X0_placeOf : GoodIn wsX0_write (wsV RX0 36 RX0 yX0_placeOf wsX0_placeOf) := goodIn_app (goodIn_of _ (by decide +kernel)) ggX0_write_X0_placeOf
theorem dX0_write_0 : decode cX0_write 0 = .ok (.aload_n 0, 1) := by decide +kernel
theorem dX0_write_1 : decode cX0_write 1 = .ok (.getfield 19, 3) := by decide +kernel
theorem dX0_write_4 : decode cX0_write 4 = .ok (.aload_n 0, 1) := by decide +kernel
theorem dX0_write_5 : decode cX0_write 5 = .ok (.getfield 15, 3) := by decide +kernel
theorem dX0_write_8 : decode cX0_write 8 = .ok (.invokevirtual 26, 3) := by decide +kernel
theorem dX0_write_11 : decode cX0_write 11 = .ok (.iconst 0, 1) := by decide +kernel
theorem dX0_write_12 : decode cX0_write 12 = .ok (.istore_n 3, 1) := by decide +kernel
theorem dX0_write_13 : decode cX0_write 13 = .ok (.iload_n 3, 1) := by decide +kernel
theorem dX0_write_14 : decode cX0_write 14 = .ok (.iload_n 2, 1) := by decide +kernel
theorem dX0_write_15 : decode cX0_write 15 = .ok (.if_icmp .ge 71, 3) := by decide +kernel
theorem dX0_write_18 : decode cX0_write 18 = .ok (.aload_n 0, 1) := by decide +kernel
theorem dX0_write_19 : decode cX0_write 19 = .ok (.getfield 19, 3) := by decide +kernel
theorem dX0_write_22 : decode cX0_write 22 = .ok (.invokevirtual 32, 3) := by decide +kernel
theorem dX0_write_25 : decode cX0_write 25 = .ok (.istore 4, 2) := by decide +kernel
theorem dX0_write_27 : decode cX0_write 27 = .ok (.aload_n 0, 1) := by decide +kernel
theorem dX0_write_28 : decode cX0_write 28 = .ok (.getfield 11, 3) := by decide +kernel
theorem dX0_write_31 : decode cX0_write 31 = .ok (.aload_n 0, 1) := by decide +kernel
theorem dX0_write_32 : decode cX0_write 32 = .ok (.iload_n 3, 1) := by decide +kernel
theorem dX0_write_33 : decode cX0_write 33 = .ok (.iconst 0, 1) := by decide +kernel
theorem dX0_write_34 : decode cX0_write 34 = .ok (.invokevirtual 36, 3) := by decide +kernel
theorem dX0_write_37 : decode cX0_write 37 = .ok (.aload_n 0, 1) := by decide +kernel
theorem dX0_write_38 : decode cX0_write 38 = .ok (.getfield 19, 3) := by decide +kernel
theorem dX0_write_41 : decode cX0_write 41 = .ok (.getfield 40, 3) := by decide +kernel
theorem dX0_write_44 : decode cX0_write 44 = .ok (.iload_n 1, 1) := by decide +kernel
theorem dX0_write_45 : decode cX0_write 45 = .ok (.iaload, 1) := by decide +kernel
theorem dX0_write_46 : decode cX0_write 46 = .ok (.iastore, 1) := by decide +kernel
theorem dX0_write_47 : decode cX0_write 47 = .ok (.aload_n 0, 1) := by decide +kernel
theorem dX0_write_48 : decode cX0_write 48 = .ok (.getfield 11, 3) := by decide +kernel
theorem dX0_write_51 : decode cX0_write 51 = .ok (.aload_n 0, 1) := by decide +kernel
theorem dX0_write_52 : decode cX0_write 52 = .ok (.iload_n 3, 1) := by decide +kernel
theorem dX0_write_53 : decode cX0_write 53 = .ok (.iconst 1, 1) := by decide +kernel
theorem dX0_write_54 : decode cX0_write 54 = .ok (.invokevirtual 36, 3) := by decide +kernel
theorem dX0_write_57 : decode cX0_write 57 = .ok (.aload_n 0, 1) := by decide +kernel
theorem dX0_write_58 : decode cX0_write 58 = .ok (.getfield 19, 3) := by decide +kernel
theorem dX0_write_61 : decode cX0_write 61 = .ok (.getfield 43, 3) := by decide +kernel
theorem dX0_write_64 : decode cX0_write 64 = .ok (.iload_n 1, 1) := by decide +kernel
theorem dX0_write_65 : decode cX0_write 65 = .ok (.iaload, 1) := by decide +kernel
theorem dX0_write_66 : decode cX0_write 66 = .ok (.iastore, 1) := by decide +kernel
theorem dX0_write_67 : decode cX0_write 67 = .ok (.aload_n 0, 1) := by decide +kernel
theorem dX0_write_68 : decode cX0_write 68 = .ok (.getfield 11, 3) := by decide +kernel
theorem dX0_write_71 : decode cX0_write 71 = .ok (.aload_n 0, 1) := by decide +kernel
theorem dX0_write_72 : decode cX0_write 72 = .ok (.iload_n 3, 1) := by decide +kernel
theorem dX0_write_73 : decode cX0_write 73 = .ok (.iconst 2, 1) := by decide +kernel
theorem dX0_write_74 : decode cX0_write 74 = .ok (.invokevirtual 36, 3) := by decide +kernel
theorem dX0_write_77 : decode cX0_write 77 = .ok (.iload 4, 2) := by decide +kernel
theorem dX0_write_79 : decode cX0_write 79 = .ok (.iastore, 1) := by decide +kernel
theorem dX0_write_80 : decode cX0_write 80 = .ok (.iinc 3 1, 3) := by decide +kernel
theorem dX0_write_83 : decode cX0_write 83 = .ok (.goto (-70), 3) := by decide +kernel
theorem dX0_write_86 : decode cX0_write 86 = .ok (.aload_n 0, 1) := by decide +kernel
theorem dX0_write_87 : decode cX0_write 87 = .ok (.iload_n 2, 1) := by decide +kernel
theorem dX0_write_88 : decode cX0_write 88 = .ok (.putfield 22, 3) := by decide +kernel
theorem dX0_write_91 : decode cX0_write 91 = .ok (.return_, 1) := by decide +kernel
set_option maxRecDepth 20000 in
theorem ggX0_firstWrong_X6_copyFrom : GoodIn wsX0_firstWrong wsX6_copyFrom := goodIn_r _ [11, 12, 13, 14, 15, 16, 17, 18, 19, 20, 21, 22, 23, 24, 10, 25, 26, 27, 81, 82, 83, 84, 85, 86, 87, 88, 89, 90, 91, 92] (by decide +kernel) (by decide +kernel)
set_option maxRecDepth 20000 in
theorem gX0_firstWrong_X6_copyFrom : GoodIn wsX0_firstWrong (wsV RX0 26 RX6 yX6_copyFrom wsX6_copyFrom) := goodIn_app (goodIn_of _ (by decide +kernel)) ggX0_firstWrong_X6_copyFrom
set_option maxRecDepth 20000 in
theorem ggX0_firstWrong_X6_passDay : GoodIn wsX0_firstWrong wsX6_passDay := goodIn_r _ [31, 32, 12, 33, 34, 35, 36, 27, 37, 38, 39, 10, 40, 15, 17, 41, 42, 43, 13, 44, 45, 46, 47, 26, 16, 19, 48, 49, 50, 51, 21, 20, 52, 53, 54, 55, 56, 57, 58, 59, 18, 60, 61, 62, 63, 64, 65, 66, 67, 68, 69, 70, 71, 81, 82, 83, 84, 85, 86, 87, 88, 89, 90, 91, 92] (by decide +kernel) (by decide +kernel)
set_option maxRecDepth 20000 in
theorem gX0_firstWrong_X6_passDay : GoodIn wsX0_firstWrong (wsV RX0 32 RX6 yX6_passDay wsX6_passDay) := goodIn_app (goodIn_of _ (by decide +kernel)) ggX0_firstWrong_X6_passDay
set_option maxRecDepth 20000 in
theorem ggX0_firstWrong_X0_placeOf : GoodIn wsX0_firstWrong wsX0_placeOf := goodIn_r _ [76] (by decide +kernel) (by decide +kernel)
set_option maxRecDepth 20000 in
theorem gX0_firstWrong_X0_placeOf : GoodIn wsX0_firstWrong (wsV RX0 36 RX0 yX0_placeOf wsX0_placeOf) := goodIn_app (goodIn_of _ (by decide +kernel)) ggX0_firstWrong_X0_placeOf
theorem dX0_firstWrong_0 : decode cX0_firstWrong 0 = .ok (.aload_n 0, 1) := by decide +kernel
theorem dX0_firstWrong_1 : decode cX0_firstWrong 1 = .ok (.getfield 19, 3) := by decide +kernel
theorem dX0_firstWrong_4 : decode cX0_firstWrong 4 = .ok (.aload_n 0, 1) := by decide +kernel
theorem dX0_firstWrong_5 : decode cX0_firstWrong 5 = .ok (.getfield 15, 3) := by decide +kernel
theorem dX0_firstWrong_8 : decode cX0_firstWrong 8 = .ok (.invokevirtual 26, 3) := by decide +kernel
theorem dX0_firstWrong_11 : decode cX0_firstWrong 11 = .ok (.iconst 0, 1) := by decide +kernel
theorem dX0_firstWrong_12 : decode cX0_firstWrong 12 = .ok (.istore_n 2, 1) := by decide +kernel
theorem dX0_firstWrong_13 : decode cX0_firstWrong 13 = .ok (.iload_n 2, 1) := by decide +kernel
theorem dX0_firstWrong_14 : decode cX0_firstWrong 14 = .ok (.aload_n 0, 1) := by decide +kernel
theorem dX0_firstWrong_15 : decode cX0_firstWrong 15 = .ok (.getfield 22, 3) := by decide +kernel
theorem dX0_firstWrong_18 : decode cX0_firstWrong 18 = .ok (.if_icmp .ge 82, 3) := by decide +kernel
theorem dX0_firstWrong_21 : decode cX0_firstWrong 21 = .ok (.aload_n 0, 1) := by decide +kernel
theorem dX0_firstWrong_22 : decode cX0_firstWrong 22 = .ok (.getfield 19, 3) := by decide +kernel
theorem dX0_firstWrong_25 : decode cX0_firstWrong 25 = .ok (.invokevirtual 32, 3) := by decide +kernel
theorem dX0_firstWrong_28 : decode cX0_firstWrong 28 = .ok (.istore_n 3, 1) := by decide +kernel
theorem dX0_firstWrong_29 : decode cX0_firstWrong 29 = .ok (.aload_n 0, 1) := by decide +kernel
theorem dX0_firstWrong_30 : decode cX0_firstWrong 30 = .ok (.getfield 11, 3) := by decide +kernel
theorem dX0_firstWrong_33 : decode cX0_firstWrong 33 = .ok (.aload_n 0, 1) := by decide +kernel
theorem dX0_firstWrong_34 : decode cX0_firstWrong 34 = .ok (.iload_n 2, 1) := by decide +kernel
theorem dX0_firstWrong_35 : decode cX0_firstWrong 35 = .ok (.iconst 0, 1) := by decide +kernel
theorem dX0_firstWrong_36 : decode cX0_firstWrong 36 = .ok (.invokevirtual 36, 3) := by decide +kernel
theorem dX0_firstWrong_39 : decode cX0_firstWrong 39 = .ok (.iaload, 1) := by decide +kernel
theorem dX0_firstWrong_40 : decode cX0_firstWrong 40 = .ok (.aload_n 0, 1) := by decide +kernel
theorem dX0_firstWrong_41 : decode cX0_firstWrong 41 = .ok (.getfield 19, 3) := by decide +kernel
theorem dX0_firstWrong_44 : decode cX0_firstWrong 44 = .ok (.getfield 40, 3) := by decide +kernel
theorem dX0_firstWrong_47 : decode cX0_firstWrong 47 = .ok (.iload_n 1, 1) := by decide +kernel
theorem dX0_firstWrong_48 : decode cX0_firstWrong 48 = .ok (.iaload, 1) := by decide +kernel
theorem dX0_firstWrong_49 : decode cX0_firstWrong 49 = .ok (.if_icmp .ne 41, 3) := by decide +kernel
theorem dX0_firstWrong_52 : decode cX0_firstWrong 52 = .ok (.aload_n 0, 1) := by decide +kernel
theorem dX0_firstWrong_53 : decode cX0_firstWrong 53 = .ok (.getfield 11, 3) := by decide +kernel
theorem dX0_firstWrong_56 : decode cX0_firstWrong 56 = .ok (.aload_n 0, 1) := by decide +kernel
theorem dX0_firstWrong_57 : decode cX0_firstWrong 57 = .ok (.iload_n 2, 1) := by decide +kernel
theorem dX0_firstWrong_58 : decode cX0_firstWrong 58 = .ok (.iconst 1, 1) := by decide +kernel
theorem dX0_firstWrong_59 : decode cX0_firstWrong 59 = .ok (.invokevirtual 36, 3) := by decide +kernel
theorem dX0_firstWrong_62 : decode cX0_firstWrong 62 = .ok (.iaload, 1) := by decide +kernel
theorem dX0_firstWrong_63 : decode cX0_firstWrong 63 = .ok (.aload_n 0, 1) := by decide +kernel
theorem dX0_firstWrong_64 : decode cX0_firstWrong 64 = .ok (.getfield 19, 3) := by decide +kernel
theorem dX0_firstWrong_67 : decode cX0_firstWrong 67 = .ok (.getfield 43, 3) := by decide +kernel
theorem dX0_firstWrong_70 : decode cX0_firstWrong 70 = .ok (.iload_n 1, 1) := by decide +kernel
theorem dX0_firstWrong_71 : decode cX0_firstWrong 71 = .ok (.iaload, 1) := by decide +kernel
theorem dX0_firstWrong_72 : decode cX0_firstWrong 72 = .ok (.if_icmp .ne 18, 3) := by decide +kernel
theorem dX0_firstWrong_75 : decode cX0_firstWrong 75 = .ok (.aload_n 0, 1) := by decide +kernel
theorem dX0_firstWrong_76 : decode cX0_firstWrong 76 = .ok (.getfield 11, 3) := by decide +kernel
theorem dX0_firstWrong_79 : decode cX0_firstWrong 79 = .ok (.aload_n 0, 1) := by decide +kernel
theorem dX0_firstWrong_80 : decode cX0_firstWrong 80 = .ok (.iload_n 2, 1) := by decide +kernel
theorem dX0_firstWrong_81 : decode cX0_firstWrong 81 = .ok (.iconst 2, 1) := by decide +kernel
theorem dX0_firstWrong_82 : decode cX0_firstWrong 82 = .ok (.invokevirtual 36, 3) := by decide +kernel
theorem dX0_firstWrong_85 : decode cX0_firstWrong 85 = .ok (.iaload, 1) := by decide +kernel
theorem dX0_firstWrong_86 : decode cX0_firstWrong 86 = .ok (.iload_n 3, 1) := by decide +kernel
theorem dX0_firstWrong_87 : decode cX0_firstWrong 87 = .ok (.if_icmp .eq 7, 3) := by decide +kernel
theorem dX0_firstWrong_90 : decode cX0_firstWrong 90 = .ok (.iload_n 2, 1) := by decide +kernel
theorem dX0_firstWrong_91 : decode cX0_firstWrong 91 = .ok (.iconst 1, 1) := by decide +kernel
theorem dX0_firstWrong_92 : decode cX0_firstWrong 92 = .ok (.iadd, 1) := by decide +kernel
theorem dX0_firstWrong_93 : decode cX0_firstWrong 93 = .ok (.ireturn, 1) := by decide +kernel
theorem dX0_firstWrong_94 : decode cX0_firstWrong 94 = .ok (.iinc 2 1, 3) := by decide +kernel
theorem dX0_firstWrong_97 : decode cX0_firstWrong 97 = .ok (.goto (-84), 3) := by decide +kernel
theorem dX0_firstWrong_100 : decode cX0_firstWrong 100 = .ok (.iconst 0, 1) := by decide +kernel
theorem dX0_firstWrong_101 : decode cX0_firstWrong 101 = .ok (.ireturn, 1) := by decide +kernel
theorem dX1_init_0 : decode cX1_init 0 = .ok (.aload_n 0, 1) := by decide +kernel
theorem dX1_init_1 : decode cX1_init 1 = .ok (.invokespecial 3, 3) := by decide +kernel
theorem dX1_init_4 : decode cX1_init 4 = .ok (.aload_n 0, 1) := by decide +kernel
theorem dX1_init_5 : decode cX1_init 5 = .ok (.bipush 30, 2) := by decide +kernel
theorem dX1_init_7 : decode cX1_init 7 = .ok (.newarray .int, 2) := by decide +kernel
theorem dX1_init_9 : decode cX1_init 9 = .ok (.putfield 9, 3) := by decide +kernel
theorem dX1_init_12 : decode cX1_init 12 = .ok (.aload_n 0, 1) := by decide +kernel
theorem dX1_init_13 : decode cX1_init 13 = .ok (.iconst 0, 1) := by decide +kernel
theorem dX1_init_14 : decode cX1_init 14 = .ok (.putfield 15, 3) := by decide +kernel
theorem dX1_init_17 : decode cX1_init 17 = .ok (.return_, 1) := by decide +kernel
theorem dX1_forget_0 : decode cX1_forget 0 = .ok (.aload_n 0, 1) := by decide +kernel
theorem dX1_forget_1 : decode cX1_forget 1 = .ok (.iconst 0, 1) := by decide +kernel
theorem dX1_forget_2 : decode cX1_forget 2 = .ok (.putfield 15, 3) := by decide +kernel
theorem dX1_forget_5 : decode cX1_forget 5 = .ok (.aload_n 0, 1) := by decide +kernel
theorem dX1_forget_6 : decode cX1_forget 6 = .ok (.iconst 0, 1) := by decide +kernel
theorem dX1_forget_7 : decode cX1_forget 7 = .ok (.putfield 19, 3) := by decide +kernel
theorem dX1_forget_10 : decode cX1_forget 10 = .ok (.return_, 1) := by decide +kernel
set_option maxRecDepth 20000 in
theorem ggX1_run_X1_mutters : GoodIn wsX1_run wsX1_mutters := goodIn_r _ [10, 2, 3, 11, 12, 13, 9, 14, 15, 16, 17, 18, 19, 20, 50, 51, 52, 53, 54, 55] (by decide +kernel) (by decide +kernel)
set_option maxRecDepth 20000 in
theorem gX1_run_X1_mutters : GoodIn wsX1_run (wsV RX1 38 RX1 yX1_mutters wsX1_mutters) := goodIn_app (goodIn_of _ (by decide +kernel)) ggX1_run_X1_mutters
set_option maxRecDepth 20000 in
theorem ggX1_run_X1_says : GoodIn wsX1_run wsX1_says := goodIn_r _ [24, 2, 5, 11, 12, 13, 9, 14, 15, 16, 25, 26, 27, 28, 6, 7, 8, 10, 3, 17, 18, 19, 20, 50, 51, 52, 53, 54, 55] (by decide +kernel) (by decide +kernel)
set_option maxRecDepth 20000 in
theorem gX1_run_X1_says : GoodIn wsX1_run (wsV RX1 42 RX1 yX1_says wsX1_says) := goodIn_app (goodIn_of _ (by decide +kernel)) ggX1_run_X1_says
set_option maxRecDepth 20000 in
theorem ggX1_run_X1_parts : GoodIn wsX1_run wsX1_parts := goodIn_r _ [32, 2, 5, 3, 33, 11, 12, 13, 9, 14, 15, 16, 6, 7, 8, 10, 17, 18, 19, 20, 50, 51, 52, 53, 54, 55] (by decide +kernel) (by decide +kernel)
set_option maxRecDepth 20000 in
theorem gX1_run_X1_parts : GoodIn wsX1_run (wsV RX1 45 RX1 yX1_parts wsX1_parts) := goodIn_app (goodIn_of _ (by decide +kernel)) ggX1_run_X1_parts
set_option maxRecDepth 20000 in
theorem ggX1_run_X1_shouts : GoodIn wsX1_run wsX1_shouts := goodIn_r _ [37, 2, 3, 17, 18, 19, 9, 20, 11, 12, 13, 14, 15, 16, 21, 22, 23, 24, 5, 25, 26, 27, 28, 6, 7, 8, 10, 29, 30, 31, 32, 33, 50, 51, 52, 53, 54, 55] (by decide +kernel) (by decide +kernel)
set_option maxRecDepth 20000 in
theorem gX1_run_X1_shouts : GoodIn wsX1_run (wsV RX1 48 RX1 yX1_shouts wsX1_shouts) := goodIn_app (goodIn_of _ (by decide +kernel)) ggX1_run_X1_shouts
theorem dX1_run_0 : decode cX1_run 0 = .ok (.aload_n 0, 1) := by decide +kernel
theorem dX1_run_1 : decode cX1_run 1 = .ok (.aload_n 1, 1) := by decide +kernel
theorem dX1_run_2 : decode cX1_run 2 = .ok (.getfield 23, 3) := by decide +kernel
theorem dX1_run_5 : decode cX1_run 5 = .ok (.iload_n 2, 1) := by decide +kernel
theorem dX1_run_6 : decode cX1_run 6 = .ok (.iaload, 1) := by decide +kernel
theorem dX1_run_7 : decode cX1_run 7 = .ok (.putfield 28, 3) := by decide +kernel
theorem dX1_run_10 : decode cX1_run 10 = .ok (.aload_n 0, 1) := by decide +kernel
theorem dX1_run_11 : decode cX1_run 11 = .ok (.iload_n 2, 1) := by decide +kernel
theorem dX1_run_12 : decode cX1_run 12 = .ok (.putfield 30, 3) := by decide +kernel
theorem dX1_run_15 : decode cX1_run 15 = .ok (.aload_n 0, 1) := by decide +kernel
theorem dX1_run_16 : decode cX1_run 16 = .ok (.aload_n 1, 1) := by decide +kernel
theorem dX1_run_17 : decode cX1_run 17 = .ok (.getfield 33, 3) := by decide +kernel
theorem dX1_run_20 : decode cX1_run 20 = .ok (.iload_n 2, 1) := by decide +kernel
theorem dX1_run_21 : decode cX1_run 21 = .ok (.iaload, 1) := by decide +kernel
theorem dX1_run_22 : decode cX1_run 22 = .ok (.putfield 36, 3) := by decide +kernel
theorem dX1_run_25 : decode cX1_run 25 = .ok (.iload_n 3, 1) := by decide +kernel
theorem dX1_run_26 : decode cX1_run 26 = .ok (.tableswitch 47 0 2 #[26, 33, 40], 26) := by decide +kernel
theorem dX1_run_52 : decode cX1_run 52 = .ok (.aload_n 0, 1) := by decide +kernel
theorem dX1_run_53 : decode cX1_run 53 = .ok (.iload 4, 2) := by decide +kernel
theorem dX1_run_55 : decode cX1_run 55 = .ok (.invokevirtual 38, 3) := by decide +kernel
theorem dX1_run_58 : decode cX1_run 58 = .ok (.ireturn, 1) := by decide +kernel
theorem dX1_run_59 : decode cX1_run 59 = .ok (.aload_n 0, 1) := by decide +kernel
theorem dX1_run_60 : decode cX1_run 60 = .ok (.iload 4, 2) := by decide +kernel
theorem dX1_run_62 : decode cX1_run 62 = .ok (.invokevirtual 42, 3) := by decide +kernel
theorem dX1_run_65 : decode cX1_run 65 = .ok (.ireturn, 1) := by decide +kernel
theorem dX1_run_66 : decode cX1_run 66 = .ok (.aload_n 0, 1) := by decide +kernel
theorem dX1_run_67 : decode cX1_run 67 = .ok (.iload 4, 2) := by decide +kernel
theorem dX1_run_69 : decode cX1_run 69 = .ok (.invokevirtual 45, 3) := by decide +kernel
theorem dX1_run_72 : decode cX1_run 72 = .ok (.ireturn, 1) := by decide +kernel
theorem dX1_run_73 : decode cX1_run 73 = .ok (.aload_n 0, 1) := by decide +kernel
theorem dX1_run_74 : decode cX1_run 74 = .ok (.iload 4, 2) := by decide +kernel
theorem dX1_run_76 : decode cX1_run 76 = .ok (.invokevirtual 48, 3) := by decide +kernel
theorem dX1_run_79 : decode cX1_run 79 = .ok (.ireturn, 1) := by decide +kernel
theorem dX1_begin_0 : decode cX1_begin 0 = .ok (.aload_n 0, 1) := by decide +kernel
theorem dX1_begin_1 : decode cX1_begin 1 = .ok (.getfield 15, 3) := by decide +kernel
theorem dX1_begin_4 : decode cX1_begin 4 = .ok (.bipush 30, 2) := by decide +kernel
theorem dX1_begin_6 : decode cX1_begin 6 = .ok (.if_icmp .ge 23, 3) := by decide +kernel
theorem dX1_begin_9 : decode cX1_begin 9 = .ok (.aload_n 0, 1) := by decide +kernel
theorem dX1_begin_10 : decode cX1_begin 10 = .ok (.getfield 9, 3) := by decide +kernel
theorem dX1_begin_13 : decode cX1_begin 13 = .ok (.aload_n 0, 1) := by decide +kernel
theorem dX1_begin_14 : decode cX1_begin 14 = .ok (.getfield 15, 3) := by decide +kernel
theorem dX1_begin_17 : decode cX1_begin 17 = .ok (.iload_n 1, 1) := by decide +kernel
theorem dX1_begin_18 : decode cX1_begin 18 = .ok (.iastore, 1) := by decide +kernel
theorem dX1_begin_19 : decode cX1_begin 19 = .ok (.aload_n 0, 1) := by decide +kernel
theorem dX1_begin_20 : decode cX1_begin 20 = .ok (.dup, 1) := by decide +kernel
theorem dX1_begin_21 : decode cX1_begin 21 = .ok (.getfield 15, 3) := by decide +kernel
theorem dX1_begin_24 : decode cX1_begin 24 = .ok (.iconst 1, 1) := by decide +kernel
theorem dX1_begin_25 : decode cX1_begin 25 = .ok (.iadd, 1) := by decide +kernel
theorem dX1_begin_26 : decode cX1_begin 26 = .ok (.putfield 15, 3) := by decide +kernel
theorem dX1_begin_29 : decode cX1_begin 29 = .ok (.return_, 1) := by decide +kernel
theorem dX1_isWifely_0 : decode cX1_isWifely 0 = .ok (.aload_n 0, 1) := by decide +kernel
theorem dX1_isWifely_1 : decode cX1_isWifely 1 = .ok (.getfield 28, 3) := by decide +kernel
theorem dX1_isWifely_4 : decode cX1_isWifely 4 = .ok (.iconst 1, 1) := by decide +kernel
theorem dX1_isWifely_5 : decode cX1_isWifely 5 = .ok (.if_icmp .eq 11, 3) := by decide +kernel
theorem dX1_isWifely_8 : decode cX1_isWifely 8 = .ok (.aload_n 0, 1) := by decide +kernel
theorem dX1_isWifely_9 : decode cX1_isWifely 9 = .ok (.getfield 28, 3) := by decide +kernel
theorem dX1_isWifely_12 : decode cX1_isWifely 12 = .ok (.iconst 3, 1) := by decide +kernel
theorem dX1_isWifely_13 : decode cX1_isWifely 13 = .ok (.if_icmp .ne 7, 3) := by decide +kernel
theorem dX1_isWifely_16 : decode cX1_isWifely 16 = .ok (.iconst 1, 1) := by decide +kernel
theorem dX1_isWifely_17 : decode cX1_isWifely 17 = .ok (.goto 4, 3) := by decide +kernel
theorem dX1_isWifely_20 : decode cX1_isWifely 20 = .ok (.iconst 0, 1) := by decide +kernel
theorem dX1_isWifely_21 : decode cX1_isWifely 21 = .ok (.ireturn, 1) := by decide +kernel
theorem dX1_isMonkish_0 : decode cX1_isMonkish 0 = .ok (.aload_n 0, 1) := by decide +kernel
theorem dX1_isMonkish_1 : decode cX1_isMonkish 1 = .ok (.getfield 28, 3) := by decide +kernel
theorem dX1_isMonkish_4 : decode cX1_isMonkish 4 = .ok (.iconst 2, 1) := by decide +kernel
theorem dX1_isMonkish_5 : decode cX1_isMonkish 5 = .ok (.if_icmp .eq 11, 3) := by decide +kernel
theorem dX1_isMonkish_8 : decode cX1_isMonkish 8 = .ok (.aload_n 0, 1) := by decide +kernel
theorem dX1_isMonkish_9 : decode cX1_isMonkish 9 = .ok (.getfield 28, 3) := by decide +kernel
theorem dX1_isMonkish_12 : decode cX1_isMonkish 12 = .ok (.iconst 4, 1) := by decide +kernel
theorem dX1_isMonkish_13 : decode cX1_isMonkish 13 = .ok (.if_icmp .ne 7, 3) := by decide +kernel
theorem dX1_isMonkish_16 : decode cX1_isMonkish 16 = .ok (.iconst 1, 1) := by decide +kernel
theorem dX1_isMonkish_17 : decode cX1_isMonkish 17 = .ok (.goto 4, 3) := by decide +kernel
theorem dX1_isMonkish_20 : decode cX1_isMonkish 20 = .ok (.iconst 0, 1) := by decide +kernel
theorem dX1_isMonkish_21 : decode cX1_isMonkish 21 = .ok (.ireturn, 1) := by decide +kernel
set_option maxRecDepth 20000 in
theorem ggX1_mutters_X1_begin : GoodIn wsX1_mutters wsX1_begin := goodIn_r _ [7, 8, 9, 14, 15, 16, 17, 18, 19] (by decide +kernel) (by decide +kernel)
set_option maxRecDepth 20000 in
theorem gX1_mutters_X1_begin : GoodIn wsX1_mutters (wsV RX1 51 RX1 yX1_begin wsX1_begin) := goodIn_app (goodIn_of _ (by decide +kernel)) ggX1_mutters_X1_begin
set_option maxRecDepth 20000 in
theorem ggX1_mutters_X1_isMonkish : GoodIn wsX1_mutters wsX1_isMonkish := goodIn_r _ [13, 1, 14, 15, 16, 17, 18, 19] (by decide +kernel) (by decide +kernel)
set_option maxRecDepth 20000 in
theorem gX1_mutters_X1_isMonkish : GoodIn wsX1_mutters (wsV RX1 55 RX1 yX1_isMonkish wsX1_isMonkish) := goodIn_app (goodIn_of _ (by decide +kernel)) ggX1_mutters_X1_isMonkish
theorem dX1_mutters_0 : decode cX1_mutters 0 = .ok (.aload_n 0, 1) := by decide +kernel
theorem dX1_mutters_1 : decode cX1_mutters 1 = .ok (.getfield 28, 3) := by decide +kernel
theorem dX1_mutters_4 : decode cX1_mutters 4 = .ok (.iconst 3, 1) := by decide +kernel
theorem dX1_mutters_5 : decode cX1_mutters 5 = .ok (.if_icmp .ne 9, 3) := by decide +kernel
theorem dX1_mutters_8 : decode cX1_mutters 8 = .ok (.aload_n 0, 1) := by decide +kernel
theorem dX1_mutters_9 : decode cX1_mutters 9 = .ok (.bipush 51, 2) := by decide +kernel
theorem dX1_mutters_11 : decode cX1_mutters 11 = .ok (.invokevirtual 51, 3) := by decide +kernel
theorem dX1_mutters_14 : decode cX1_mutters 14 = .ok (.aload_n 0, 1) := by decide +kernel
theorem dX1_mutters_15 : decode cX1_mutters 15 = .ok (.getfield 28, 3) := by decide +kernel
theorem dX1_mutters_18 : decode cX1_mutters 18 = .ok (.iconst 4, 1) := by decide +kernel
theorem dX1_mutters_19 : decode cX1_mutters 19 = .ok (.if_icmp .ne 9, 3) := by decide +kernel
theorem dX1_mutters_22 : decode cX1_mutters 22 = .ok (.aload_n 0, 1) := by decide +kernel
theorem dX1_mutters_23 : decode cX1_mutters 23 = .ok (.bipush 40, 2) := by decide +kernel
theorem dX1_mutters_25 : decode cX1_mutters 25 = .ok (.invokevirtual 51, 3) := by decide +kernel
theorem dX1_mutters_28 : decode cX1_mutters 28 = .ok (.aload_n 0, 1) := by decide +kernel
theorem dX1_mutters_29 : decode cX1_mutters 29 = .ok (.invokevirtual 55, 3) := by decide +kernel
theorem dX1_mutters_32 : decode cX1_mutters 32 = .ok (.ifCond .eq 9, 3) := by decide +kernel
theorem dX1_mutters_35 : decode cX1_mutters 35 = .ok (.aload_n 0, 1) := by decide +kernel
theorem dX1_mutters_36 : decode cX1_mutters 36 = .ok (.bipush 30, 2) := by decide +kernel
theorem dX1_mutters_38 : decode cX1_mutters 38 = .ok (.invokevirtual 51, 3) := by decide +kernel
theorem dX1_mutters_41 : decode cX1_mutters 41 = .ok (.aload_n 0, 1) := by decide +kernel
theorem dX1_mutters_42 : decode cX1_mutters 42 = .ok (.bipush 10, 2) := by decide +kernel
theorem dX1_mutters_44 : decode cX1_mutters 44 = .ok (.invokevirtual 51, 3) := by decide +kernel
theorem dX1_mutters_47 : decode cX1_mutters 47 = .ok (.iload_n 1, 1) := by decide +kernel
theorem dX1_mutters_48 : decode cX1_mutters 48 = .ok (.aload_n 0, 1) := by decide +kernel
theorem dX1_mutters_49 : decode cX1_mutters 49 = .ok (.getfield 30, 3) := by decide +kernel
theorem dX1_mutters_52 : decode cX1_mutters 52 = .ok (.bipush 6, 2) := by decide +kernel
theorem dX1_mutters_54 : decode cX1_mutters 54 = .ok (.imul, 1) := by decide +kernel
theorem dX1_mutters_55 : decode cX1_mutters 55 = .ok (.iadd, 1) := by decide +kernel
theorem dX1_mutters_56 : decode cX1_mutters 56 = .ok (.istore_n 2, 1) := by decide +kernel
theorem dX1_mutters_57 : decode cX1_mutters 57 = .ok (.aload_n 0, 1) := by decide +kernel
theorem dX1_mutters_58 : decode cX1_mutters 58 = .ok (.invokevirtual 55, 3) := by decide +kernel
theorem dX1_mutters_61 : decode cX1_mutters 61 = .ok (.ifCond .eq 7, 3) := by decide +kernel
theorem dX1_mutters_64 : decode cX1_mutters 64 = .ok (.iconst 0, 1) := by decide +kernel
theorem dX1_mutters_65 : decode cX1_mutters 65 = .ok (.iload_n 2, 1) := by decide +kernel
theorem dX1_mutters_66 : decode cX1_mutters 66 = .ok (.isub, 1) := by decide +kernel
theorem dX1_mutters_67 : decode cX1_mutters 67 = .ok (.istore_n 2, 1) := by decide +kernel
theorem dX1_mutters_68 : decode cX1_mutters 68 = .ok (.aload_n 0, 1) := by decide +kernel
theorem dX1_mutters_69 : decode cX1_mutters 69 = .ok (.getfield 28, 3) := by decide +kernel
theorem dX1_mutters_72 : decode cX1_mutters 72 = .ok (.iconst 4, 1) := by decide +kernel
theorem dX1_mutters_73 : decode cX1_mutters 73 = .ok (.if_icmp .ne 7, 3) := by decide +kernel
theorem dX1_mutters_76 : decode cX1_mutters 76 = .ok (.iload_n 2, 1) := by decide +kernel
theorem dX1_mutters_77 : decode cX1_mutters 77 = .ok (.iconst 5, 1) := by decide +kernel
theorem dX1_mutters_78 : decode cX1_mutters 78 = .ok (.isub, 1) := by decide +kernel
theorem dX1_mutters_79 : decode cX1_mutters 79 = .ok (.istore_n 2, 1) := by decide +kernel
theorem dX1_mutters_80 : decode cX1_mutters 80 = .ok (.aload_n 0, 1) := by decide +kernel
theorem dX1_mutters_81 : decode cX1_mutters 81 = .ok (.getfield 28, 3) := by decide +kernel
theorem dX1_mutters_84 : decode cX1_mutters 84 = .ok (.iconst 3, 1) := by decide +kernel
theorem dX1_mutters_85 : decode cX1_mutters 85 = .ok (.if_icmp .ne 8, 3) := by decide +kernel
theorem dX1_mutters_88 : decode cX1_mutters 88 = .ok (.iload_n 2, 1) := by decide +kernel
theorem dX1_mutters_89 : decode cX1_mutters 89 = .ok (.bipush 7, 2) := by decide +kernel
theorem dX1_mutters_91 : decode cX1_mutters 91 = .ok (.iadd, 1) := by decide +kernel
theorem dX1_mutters_92 : decode cX1_mutters 92 = .ok (.istore_n 2, 1) := by decide +kernel
theorem dX1_mutters_93 : decode cX1_mutters 93 = .ok (.iload_n 2, 1) := by decide +kernel
theorem dX1_mutters_94 : decode cX1_mutters 94 = .ok (.ireturn, 1) := by decide +kernel
set_option maxRecDepth 20000 in
theorem ggX1_says_X1_begin : GoodIn wsX1_says wsX1_begin := goodIn_r _ [7, 8, 9, 23, 24, 25, 26, 27, 28] (by decide +kernel) (by decide +kernel)
set_option maxRecDepth 20000 in
theorem gX1_says_X1_begin : GoodIn wsX1_says (wsV RX1 51 RX1 yX1_begin wsX1_begin) := goodIn_app (goodIn_of _ (by decide +kernel)) ggX1_says_X1_begin
set_option maxRecDepth 20000 in
theorem ggX1_says_X1_isWifely : GoodIn wsX1_says wsX1_isWifely := goodIn_r _ [13, 1, 23, 24, 25, 26, 27, 28] (by decide +kernel) (by decide +kernel)
set_option maxRecDepth 20000 in
theorem gX1_says_X1_isWifely : GoodIn wsX1_says (wsV RX1 59 RX1 yX1_isWifely wsX1_isWifely) := goodIn_app (goodIn_of _ (by decide +kernel)) ggX1_says_X1_isWifely
set_option maxRecDepth 20000 in
theorem ggX1_says_X1_mutters : GoodIn wsX1_says wsX1_mutters := goodIn_r _ [17, 1, 18, 3, 4, 5, 6, 7, 8, 9, 19, 20, 21, 22, 23, 24, 25, 26, 27, 28] (by decide +kernel) (by decide +kernel)
set_option maxRecDepth 20000 in
theorem gX1_says_X1_mutters : GoodIn wsX1_says (wsV RX1 38 RX1 yX1_mutters wsX1_mutters) := goodIn_app (goodIn_of _ (by decide +kernel)) ggX1_says_X1_mutters
theorem dX1_says_0 : decode cX1_says 0 = .ok (.aload_n 0, 1) := by decide +kernel
theorem dX1_says_1 : decode cX1_says 1 = .ok (.getfield 28, 3) := by decide +kernel
theorem dX1_says_4 : decode cX1_says 4 = .ok (.iconst 4, 1) := by decide +kernel
theorem dX1_says_5 : decode cX1_says 5 = .ok (.if_icmp .ne 9, 3) := by decide +kernel
theorem dX1_says_8 : decode cX1_says 8 = .ok (.aload_n 0, 1) := by decide +kernel
theorem dX1_says_9 : decode cX1_says 9 = .ok (.bipush 41, 2) := by decide +kernel
theorem dX1_says_11 : decode cX1_says 11 = .ok (.invokevirtual 51, 3) := by decide +kernel
theorem dX1_says_14 : decode cX1_says 14 = .ok (.aload_n 0, 1) := by decide +kernel
theorem dX1_says_15 : decode cX1_says 15 = .ok (.invokevirtual 59, 3) := by decide +kernel
theorem dX1_says_18 : decode cX1_says 18 = .ok (.ifCond .eq 9, 3) := by decide +kernel
theorem dX1_says_21 : decode cX1_says 21 = .ok (.aload_n 0, 1) := by decide +kernel
theorem dX1_says_22 : decode cX1_says 22 = .ok (.bipush 20, 2) := by decide +kernel
theorem dX1_says_24 : decode cX1_says 24 = .ok (.invokevirtual 51, 3) := by decide +kernel
theorem dX1_says_27 : decode cX1_says 27 = .ok (.aload_n 0, 1) := by decide +kernel
theorem dX1_says_28 : decode cX1_says 28 = .ok (.bipush 11, 2) := by decide +kernel
theorem dX1_says_30 : decode cX1_says 30 = .ok (.invokevirtual 51, 3) := by decide +kernel
theorem dX1_says_33 : decode cX1_says 33 = .ok (.aload_n 0, 1) := by decide +kernel
theorem dX1_says_34 : decode cX1_says 34 = .ok (.iload_n 1, 1) := by decide +kernel
theorem dX1_says_35 : decode cX1_says 35 = .ok (.invokevirtual 38, 3) := by decide +kernel
theorem dX1_says_38 : decode cX1_says 38 = .ok (.iconst 2, 1) := by decide +kernel
theorem dX1_says_39 : decode cX1_says 39 = .ok (.imul, 1) := by decide +kernel
theorem dX1_says_40 : decode cX1_says 40 = .ok (.aload_n 0, 1) := by decide +kernel
theorem dX1_says_41 : decode cX1_says 41 = .ok (.getfield 36, 3) := by decide +kernel
theorem dX1_says_44 : decode cX1_says 44 = .ok (.iadd, 1) := by decide +kernel
theorem dX1_says_45 : decode cX1_says 45 = .ok (.istore_n 2, 1) := by decide +kernel
theorem dX1_says_46 : decode cX1_says 46 = .ok (.aload_n 0, 1) := by decide +kernel
theorem dX1_says_47 : decode cX1_says 47 = .ok (.invokevirtual 59, 3) := by decide +kernel
theorem dX1_says_50 : decode cX1_says 50 = .ok (.ifCond .eq 7, 3) := by decide +kernel
theorem dX1_says_53 : decode cX1_says 53 = .ok (.iload_n 2, 1) := by decide +kernel
theorem dX1_says_54 : decode cX1_says 54 = .ok (.iconst 3, 1) := by decide +kernel
theorem dX1_says_55 : decode cX1_says 55 = .ok (.imul, 1) := by decide +kernel
theorem dX1_says_56 : decode cX1_says 56 = .ok (.istore_n 2, 1) := by decide +kernel
theorem dX1_says_57 : decode cX1_says 57 = .ok (.aload_n 0, 1) := by decide +kernel
theorem dX1_says_58 : decode cX1_says 58 = .ok (.getfield 28, 3) := by decide +kernel
theorem dX1_says_61 : decode cX1_says 61 = .ok (.iconst 4, 1) := by decide +kernel
theorem dX1_says_62 : decode cX1_says 62 = .ok (.if_icmp .ne 14, 3) := by decide +kernel
theorem dX1_says_65 : decode cX1_says 65 = .ok (.iload_n 2, 1) := by decide +kernel
theorem dX1_says_66 : decode cX1_says 66 = .ok (.aload_n 0, 1) := by decide +kernel
theorem dX1_says_67 : decode cX1_says 67 = .ok (.aload_n 0, 1) := by decide +kernel
theorem dX1_says_68 : decode cX1_says 68 = .ok (.getfield 36, 3) := by decide +kernel
theorem dX1_says_71 : decode cX1_says 71 = .ok (.invokevirtual 38, 3) := by decide +kernel
theorem dX1_says_74 : decode cX1_says 74 = .ok (.ixor, 1) := by decide +kernel
theorem dX1_says_75 : decode cX1_says 75 = .ok (.istore_n 2, 1) := by decide +kernel
theorem dX1_says_76 : decode cX1_says 76 = .ok (.iload_n 2, 1) := by decide +kernel
theorem dX1_says_77 : decode cX1_says 77 = .ok (.ireturn, 1) := by decide +kernel
set_option maxRecDepth 20000 in
theorem ggX1_parts_X1_begin : GoodIn wsX1_parts wsX1_begin := goodIn_r _ [9, 10, 11, 20, 21, 22, 23, 24, 25] (by decide +kernel) (by decide +kernel)
set_option maxRecDepth 20000 in
theorem gX1_parts_X1_begin : GoodIn wsX1_parts (wsV RX1 51 RX1 yX1_begin wsX1_begin) := goodIn_app (goodIn_of _ (by decide +kernel)) ggX1_parts_X1_begin
set_option maxRecDepth 20000 in
theorem ggX1_parts_X1_mutters : GoodIn wsX1_parts wsX1_mutters := goodIn_r _ [15, 1, 3, 5, 6, 7, 8, 9, 10, 11, 16, 17, 18, 19, 20, 21, 22, 23, 24, 25] (by decide +kernel) (by decide +kernel)
set_option maxRecDepth 20000 in
theorem gX1_parts_X1_mutters : GoodIn wsX1_parts (wsV RX1 38 RX1 yX1_mutters wsX1_mutters) := goodIn_app (goodIn_of _ (by decide +kernel)) ggX1_parts_X1_mutters
theorem dX1_parts_0 : decode cX1_parts 0 = .ok (.aload_n 0, 1) := by decide +kernel
theorem dX1_parts_1 : decode cX1_parts 1 = .ok (.getfield 28, 3) := by decide +kernel
theorem dX1_parts_4 : decode cX1_parts 4 = .ok (.iconst 3, 1) := by decide +kernel
theorem dX1_parts_5 : decode cX1_parts 5 = .ok (.if_icmp .ne 9, 3) := by decide +kernel
theorem dX1_parts_8 : decode cX1_parts 8 = .ok (.aload_n 0, 1) := by decide +kernel
theorem dX1_parts_9 : decode cX1_parts 9 = .ok (.bipush 50, 2) := by decide +kernel
theorem dX1_parts_11 : decode cX1_parts 11 = .ok (.invokevirtual 51, 3) := by decide +kernel
theorem dX1_parts_14 : decode cX1_parts 14 = .ok (.aload_n 0, 1) := by decide +kernel
theorem dX1_parts_15 : decode cX1_parts 15 = .ok (.getfield 28, 3) := by decide +kernel
theorem dX1_parts_18 : decode cX1_parts 18 = .ok (.iconst 5, 1) := by decide +kernel
theorem dX1_parts_19 : decode cX1_parts 19 = .ok (.if_icmp .ne 9, 3) := by decide +kernel
theorem dX1_parts_22 : decode cX1_parts 22 = .ok (.aload_n 0, 1) := by decide +kernel
theorem dX1_parts_23 : decode cX1_parts 23 = .ok (.bipush 61, 2) := by decide +kernel
theorem dX1_parts_25 : decode cX1_parts 25 = .ok (.invokevirtual 51, 3) := by decide +kernel
theorem dX1_parts_28 : decode cX1_parts 28 = .ok (.aload_n 0, 1) := by decide +kernel
theorem dX1_parts_29 : decode cX1_parts 29 = .ok (.bipush 12, 2) := by decide +kernel
theorem dX1_parts_31 : decode cX1_parts 31 = .ok (.invokevirtual 51, 3) := by decide +kernel
theorem dX1_parts_34 : decode cX1_parts 34 = .ok (.aload_n 0, 1) := by decide +kernel
theorem dX1_parts_35 : decode cX1_parts 35 = .ok (.getfield 36, 3) := by decide +kernel
theorem dX1_parts_38 : decode cX1_parts 38 = .ok (.aload_n 0, 1) := by decide +kernel
theorem dX1_parts_39 : decode cX1_parts 39 = .ok (.getfield 30, 3) := by decide +kernel
theorem dX1_parts_42 : decode cX1_parts 42 = .ok (.isub, 1) := by decide +kernel
theorem dX1_parts_43 : decode cX1_parts 43 = .ok (.istore_n 2, 1) := by decide +kernel
theorem dX1_parts_44 : decode cX1_parts 44 = .ok (.iload_n 2, 1) := by decide +kernel
theorem dX1_parts_45 : decode cX1_parts 45 = .ok (.ifCond .ne 10, 3) := by decide +kernel
theorem dX1_parts_48 : decode cX1_parts 48 = .ok (.aload_n 0, 1) := by decide +kernel
theorem dX1_parts_49 : decode cX1_parts 49 = .ok (.iconst 1, 1) := by decide +kernel
theorem dX1_parts_50 : decode cX1_parts 50 = .ok (.putfield 19, 3) := by decide +kernel
theorem dX1_parts_53 : decode cX1_parts 53 = .ok (.iconst 0, 1) := by decide +kernel
theorem dX1_parts_54 : decode cX1_parts 54 = .ok (.ireturn, 1) := by decide +kernel
theorem dX1_parts_55 : decode cX1_parts 55 = .ok (.aload_n 0, 1) := by decide +kernel
theorem dX1_parts_56 : decode cX1_parts 56 = .ok (.getfield 28, 3) := by decide +kernel
theorem dX1_parts_59 : decode cX1_parts 59 = .ok (.iconst 3, 1) := by decide +kernel
theorem dX1_parts_60 : decode cX1_parts 60 = .ok (.if_icmp .ne 14, 3) := by decide +kernel
theorem dX1_parts_63 : decode cX1_parts 63 = .ok (.iload_n 1, 1) := by decide +kernel
theorem dX1_parts_64 : decode cX1_parts 64 = .ok (.iconst 2, 1) := by decide +kernel
theorem dX1_parts_65 : decode cX1_parts 65 = .ok (.imul, 1) := by decide +kernel
theorem dX1_parts_66 : decode cX1_parts 66 = .ok (.iload_n 2, 1) := by decide +kernel
theorem dX1_parts_67 : decode cX1_parts 67 = .ok (.idiv, 1) := by decide +kernel
theorem dX1_parts_68 : decode cX1_parts 68 = .ok (.aload_n 0, 1) := by decide +kernel
theorem dX1_parts_69 : decode cX1_parts 69 = .ok (.getfield 30, 3) := by decide +kernel
theorem dX1_parts_72 : decode cX1_parts 72 = .ok (.iadd, 1) := by decide +kernel
theorem dX1_parts_73 : decode cX1_parts 73 = .ok (.ireturn, 1) := by decide +kernel
theorem dX1_parts_74 : decode cX1_parts 74 = .ok (.aload_n 0, 1) := by decide +kernel
theorem dX1_parts_75 : decode cX1_parts 75 = .ok (.getfield 28, 3) := by decide +kernel
theorem dX1_parts_78 : decode cX1_parts 78 = .ok (.iconst 5, 1) := by decide +kernel
theorem dX1_parts_79 : decode cX1_parts 79 = .ok (.if_icmp .ne 16, 3) := by decide +kernel
theorem dX1_parts_82 : decode cX1_parts 82 = .ok (.iload_n 1, 1) := by decide +kernel
theorem dX1_parts_83 : decode cX1_parts 83 = .ok (.iload_n 2, 1) := by decide +kernel
theorem dX1_parts_84 : decode cX1_parts 84 = .ok (.idiv, 1) := by decide +kernel
theorem dX1_parts_85 : decode cX1_parts 85 = .ok (.aload_n 0, 1) := by decide +kernel
theorem dX1_parts_86 : decode cX1_parts 86 = .ok (.aload_n 0, 1) := by decide +kernel
theorem dX1_parts_87 : decode cX1_parts 87 = .ok (.getfield 30, 3) := by decide +kernel
theorem dX1_parts_90 : decode cX1_parts 90 = .ok (.invokevirtual 38, 3) := by decide +kernel
theorem dX1_parts_93 : decode cX1_parts 93 = .ok (.iadd, 1) := by decide +kernel
theorem dX1_parts_94 : decode cX1_parts 94 = .ok (.ireturn, 1) := by decide +kernel
theorem dX1_parts_95 : decode cX1_parts 95 = .ok (.iload_n 1, 1) := by decide +kernel
theorem dX1_parts_96 : decode cX1_parts 96 = .ok (.iload_n 2, 1) := by decide +kernel
theorem dX1_parts_97 : decode cX1_parts 97 = .ok (.idiv, 1) := by decide +kernel
theorem dX1_parts_98 : decode cX1_parts 98 = .ok (.ireturn, 1) := by decide +kernel
set_option maxRecDepth 20000 in
theorem ggX1_shouts_X1_isMonkish : GoodIn wsX1_shouts wsX1_isMonkish := goodIn_r _ [7, 1, 32, 33, 34, 35, 36, 37] (by decide +kernel) (by decide +kernel)
set_option maxRecDepth 20000 in
theorem gX1_shouts_X1_isMonkish : GoodIn wsX1_shouts (wsV RX1 55 RX1 yX1_isMonkish wsX1_isMonkish) := goodIn_app (goodIn_of _ (by decide +kernel)) ggX1_shouts_X1_isMonkish
set_option maxRecDepth 20000 in
theorem ggX1_shouts_X1_begin : GoodIn wsX1_shouts wsX1_begin := goodIn_r _ [11, 12, 13, 32, 33, 34, 35, 36, 37] (by decide +kernel) (by decide +kernel)
set_option maxRecDepth 20000 in
theorem gX1_shouts_X1_begin : GoodIn wsX1_shouts (wsV RX1 51 RX1 yX1_begin wsX1_begin) := goodIn_app (goodIn_of _ (by decide +kernel)) ggX1_shouts_X1_begin
set_option maxRecDepth 20000 in
theorem ggX1_shouts_X1_says : GoodIn wsX1_shouts wsX1_says := goodIn_r _ [17, 1, 18, 8, 9, 10, 6, 11, 12, 13, 19, 20, 21, 22, 23, 24, 25, 26, 2, 3, 4, 5, 7, 32, 33, 34, 35, 36, 37] (by decide +kernel) (by decide +kernel)
set_option maxRecDepth 20000 in
theorem gX1_shouts_X1_says : GoodIn wsX1_shouts (wsV RX1 42 RX1 yX1_says wsX1_says) := goodIn_app (goodIn_of _ (by decide +kernel)) ggX1_shouts_X1_says
set_option maxRecDepth 20000 in
theorem ggX1_shouts_X1_parts : GoodIn wsX1_shouts wsX1_parts := goodIn_r _ [30, 1, 18, 2, 31, 8, 9, 10, 6, 11, 12, 13, 23, 24, 25, 26, 3, 4, 5, 7, 32, 33, 34, 35, 36, 37] (by decide +kernel) (by decide +kernel)
set_option maxRecDepth 20000 in
theorem gX1_shouts_X1_parts : GoodIn wsX1_shouts (wsV RX1 45 RX1 yX1_parts wsX1_parts) := goodIn_app (goodIn_of _ (by decide +kernel)) ggX1_shouts_X1_parts
theorem dX1_shouts_0 : decode cX1_shouts 0 = .ok (.aload_n 0, 1) := by decide +kernel
theorem dX1_shouts_1 : decode cX1_shouts 1 = .ok (.invokevirtual 55, 3) := by decide +kernel
theorem dX1_shouts_4 : decode cX1_shouts 4 = .ok (.ifCond .eq 9, 3) := by decide +kernel
theorem dX1_shouts_7 : decode cX1_shouts 7 = .ok (.aload_n 0, 1) := by decide +kernel
theorem dX1_shouts_8 : decode cX1_shouts 8 = .ok (.bipush 31, 2) := by decide +kernel
theorem dX1_shouts_10 : decode cX1_shouts 10 = .ok (.invokevirtual 51, 3) := by decide +kernel
theorem dX1_shouts_13 : decode cX1_shouts 13 = .ok (.aload_n 0, 1) := by decide +kernel
theorem dX1_shouts_14 : decode cX1_shouts 14 = .ok (.getfield 28, 3) := by decide +kernel
theorem dX1_shouts_17 : decode cX1_shouts 17 = .ok (.iconst 5, 1) := by decide +kernel
theorem dX1_shouts_18 : decode cX1_shouts 18 = .ok (.if_icmp .ne 9, 3) := by decide +kernel
theorem dX1_shouts_21 : decode cX1_shouts 21 = .ok (.aload_n 0, 1) := by decide +kernel
theorem dX1_shouts_22 : decode cX1_shouts 22 = .ok (.bipush 60, 2) := by decide +kernel
theorem dX1_shouts_24 : decode cX1_shouts 24 = .ok (.invokevirtual 51, 3) := by decide +kernel
theorem dX1_shouts_27 : decode cX1_shouts 27 = .ok (.aload_n 0, 1) := by decide +kernel
theorem dX1_shouts_28 : decode cX1_shouts 28 = .ok (.bipush 13, 2) := by decide +kernel
theorem dX1_shouts_30 : decode cX1_shouts 30 = .ok (.invokevirtual 51, 3) := by decide +kernel
theorem dX1_shouts_33 : decode cX1_shouts 33 = .ok (.aload_n 0, 1) := by decide +kernel
theorem dX1_shouts_34 : decode cX1_shouts 34 = .ok (.iload_n 1, 1) := by decide +kernel
theorem dX1_shouts_35 : decode cX1_shouts 35 = .ok (.invokevirtual 42, 3) := by decide +kernel
theorem dX1_shouts_38 : decode cX1_shouts 38 = .ok (.bipush 60, 2) := by decide +kernel
theorem dX1_shouts_40 : decode cX1_shouts 40 = .ok (.ixor, 1) := by decide +kernel
theorem dX1_shouts_41 : decode cX1_shouts 41 = .ok (.istore_n 2, 1) := by decide +kernel
theorem dX1_shouts_42 : decode cX1_shouts 42 = .ok (.aload_n 0, 1) := by decide +kernel
theorem dX1_shouts_43 : decode cX1_shouts 43 = .ok (.invokevirtual 55, 3) := by decide +kernel
theorem dX1_shouts_46 : decode cX1_shouts 46 = .ok (.ifCond .eq 14, 3) := by decide +kernel
theorem dX1_shouts_49 : decode cX1_shouts 49 = .ok (.iload_n 2, 1) := by decide +kernel
theorem dX1_shouts_50 : decode cX1_shouts 50 = .ok (.aload_n 0, 1) := by decide +kernel
theorem dX1_shouts_51 : decode cX1_shouts 51 = .ok (.aload_n 0, 1) := by decide +kernel
theorem dX1_shouts_52 : decode cX1_shouts 52 = .ok (.getfield 30, 3) := by decide +kernel
theorem dX1_shouts_55 : decode cX1_shouts 55 = .ok (.invokevirtual 45, 3) := by decide +kernel
theorem dX1_shouts_58 : decode cX1_shouts 58 = .ok (.iadd, 1) := by decide +kernel
theorem dX1_shouts_59 : decode cX1_shouts 59 = .ok (.istore_n 2, 1) := by decide +kernel
theorem dX1_shouts_60 : decode cX1_shouts 60 = .ok (.aload_n 0, 1) := by decide +kernel
theorem dX1_shouts_61 : decode cX1_shouts 61 = .ok (.getfield 28, 3) := by decide +kernel
theorem dX1_shouts_64 : decode cX1_shouts 64 = .ok (.iconst 5, 1) := by decide +kernel
theorem dX1_shouts_65 : decode cX1_shouts 65 = .ok (.if_icmp .ne 8, 3) := by decide +kernel
theorem dX1_shouts_68 : decode cX1_shouts 68 = .ok (.bipush 9, 2) := by decide +kernel
theorem dX1_shouts_70 : decode cX1_shouts 70 = .ok (.iload_n 2, 1) := by decide +kernel
theorem dX1_shouts_71 : decode cX1_shouts 71 = .ok (.isub, 1) := by decide +kernel
theorem dX1_shouts_72 : decode cX1_shouts 72 = .ok (.istore_n 2, 1) := by decide +kernel
theorem dX1_shouts_73 : decode cX1_shouts 73 = .ok (.iload_n 2, 1) := by decide +kernel
theorem dX1_shouts_74 : decode cX1_shouts 74 = .ok (.ireturn, 1) := by decide +kernel
set_option maxRecDepth 20000 in
theorem ggX2_init_X6_init : GoodIn wsX2_init wsX6_init := goodIn_r _ [14, 15, 2, 3, 8, 16, 17, 18, 19, 20, 21, 22, 23, 24, 25, 26, 27, 6, 28, 29, 30, 31, 32, 33, 34, 35, 36, 37, 38, 39, 40] (by decide +kernel) (by decide +kernel)
set_option maxRecDepth 20000 in
theorem gX2_init_X6_init : GoodIn wsX2_init (wsX6_init) := ggX2_init_X6_init
theorem dX2_init_0 : decode cX2_init 0 = .ok (.aload_n 0, 1) := by decide +kernel
theorem dX2_init_1 : decode cX2_init 1 = .ok (.invokespecial 3, 3) := by decide +kernel
theorem dX2_init_4 : decode cX2_init 4 = .ok (.aload_n 0, 1) := by decide +kernel
theorem dX2_init_5 : decode cX2_init 5 = .ok (.new 9, 3) := by decide +kernel
theorem dX2_init_8 : decode cX2_init 8 = .ok (.dup, 1) := by decide +kernel
theorem dX2_init_9 : decode cX2_init 9 = .ok (.invokespecial 11, 3) := by decide +kernel
theorem dX2_init_12 : decode cX2_init 12 = .ok (.putfield 12, 3) := by decide +kernel
theorem dX2_init_15 : decode cX2_init 15 = .ok (.aload_n 0, 1) := by decide +kernel
theorem dX2_init_16 : decode cX2_init 16 = .ok (.bipush 64, 2) := by decide +kernel
theorem dX2_init_18 : decode cX2_init 18 = .ok (.newarray .int, 2) := by decide +kernel
theorem dX2_init_20 : decode cX2_init 20 = .ok (.putfield 18, 3) := by decide +kernel
theorem dX2_init_23 : decode cX2_init 23 = .ok (.aload_n 0, 1) := by decide +kernel
theorem dX2_init_24 : decode cX2_init 24 = .ok (.sipush 256, 3) := by decide +kernel
theorem dX2_init_27 : decode cX2_init 27 = .ok (.newarray .int, 2) := by decide +kernel
theorem dX2_init_29 : decode cX2_init 29 = .ok (.putfield 22, 3) := by decide +kernel
theorem dX2_init_32 : decode cX2_init 32 = .ok (.aload_n 0, 1) := by decide +kernel
theorem dX2_init_33 : decode cX2_init 33 = .ok (.aload_n 1, 1) := by decide +kernel
theorem dX2_init_34 : decode cX2_init 34 = .ok (.putfield 25, 3) := by decide +kernel
theorem dX2_init_37 : decode cX2_init 37 = .ok (.return_, 1) := by decide +kernel
set_option maxRecDepth 20000 in
theorem ggX2_weigh_X2_takeOnly : GoodIn wsX2_weigh wsX2_takeOnly := goodIn_r _ [10, 4, 1, 2, 11, 12, 13, 14, 15, 16, 17, 18, 19, 20, 21, 22, 23, 24, 25, 26, 27, 28, 29, 30, 31, 32, 33, 34, 35, 36, 37, 38, 39, 40, 41, 42, 43, 44, 45, 46, 47, 48, 116, 117, 118, 119, 120, 121, 122, 123, 124, 125, 126, 127, 128, 129, 130, 131] (by decide +kernel) (by decide +kernel)
set_option maxRecDepth 20000 in
theorem gX2_weigh_X2_takeOnly : GoodIn wsX2_weigh (wsV RX2 32 RX2 yX2_takeOnly wsX2_takeOnly) := goodIn_app (goodIn_of _ (by decide +kernel)) ggX2_weigh_X2_takeOnly
set_option maxRecDepth 20000 in
theorem ggX2_weigh_X6_pass : GoodIn wsX2_weigh wsX6_pass := goodIn_r _ [52, 53, 54, 55, 18, 56, 57, 58, 59, 60, 61, 62, 21, 63, 64, 65, 66, 26, 28, 67, 68, 69, 70, 71, 72, 73, 74, 20, 27, 30, 75, 76, 77, 78, 36, 35, 45, 46, 47, 48, 79, 80, 81, 82, 29, 83, 84, 85, 86, 87, 88, 89, 90, 91, 92, 93, 94, 120, 121, 122, 123, 124, 125, 126, 127, 128, 129, 130, 131] (by decide +kernel) (by decide +kernel)
set_option maxRecDepth 20000 in
theorem gX2_weigh_X6_pass : GoodIn wsX2_weigh (wsV RX2 36 RX6 yX6_pass wsX6_pass) := goodIn_app (goodIn_of _ (by decide +kernel)) ggX2_weigh_X6_pass
set_option maxRecDepth 20000 in
theorem ggX2_weigh_X2_everyone : GoodIn wsX2_weigh wsX2_everyone := goodIn_r _ [98, 1, 2, 116, 117, 118, 119, 120, 121, 122, 123, 124, 125, 126, 127, 128, 129, 130, 131] (by decide +kernel) (by decide +kernel)
set_option maxRecDepth 20000 in
theorem gX2_weigh_X2_everyone : GoodIn wsX2_weigh (wsV RX2 40 RX2 yX2_everyone wsX2_everyone) := goodIn_app (goodIn_of _ (by decide +kernel)) ggX2_weigh_X2_everyone
set_option maxRecDepth 20000 in
theorem ggX2_weigh_X2_firstOf : GoodIn wsX2_weigh wsX2_firstOf := goodIn_r _ [102] (by decide +kernel) (by decide +kernel)
set_option maxRecDepth 20000 in
theorem gX2_weigh_X2_firstOf : GoodIn wsX2_weigh (wsV RX2 44 RX2 yX2_firstOf wsX2_firstOf) := goodIn_app (goodIn_of _ (by decide +kernel)) ggX2_weigh_X2_firstOf
set_option maxRecDepth 20000 in
theorem ggX2_weigh_X2_mostWith : GoodIn wsX2_weigh wsX2_mostWith := goodIn_r _ [106, 1, 2, 107, 68, 61, 69, 108, 109, 110, 9, 111, 3, 5, 112, 113, 114, 115, 116, 117, 118, 119, 120, 121, 122, 123, 124, 125, 126, 127, 128, 129, 130, 131] (by decide +kernel) (by decide +kernel)
set_option maxRecDepth 20000 in
theorem gX2_weigh_X2_mostWith : GoodIn wsX2_weigh (wsV RX2 47 RX2 yX2_mostWith wsX2_mostWith) := goodIn_app (goodIn_of _ (by decide +kernel)) ggX2_weigh_X2_mostWith
theorem dX2_weigh_0 : decode cX2_weigh 0 = .ok (.iconst 0, 1) := by decide +kernel
theorem dX2_weigh_1 : decode cX2_weigh 1 = .ok (.istore_n 2, 1) := by decide +kernel
theorem dX2_weigh_2 : decode cX2_weigh 2 = .ok (.iload_n 2, 1) := by decide +kernel
theorem dX2_weigh_3 : decode cX2_weigh 3 = .ok (.aload_n 0, 1) := by decide +kernel
theorem dX2_weigh_4 : decode cX2_weigh 4 = .ok (.getfield 25, 3) := by decide +kernel
theorem dX2_weigh_7 : decode cX2_weigh 7 = .ok (.getfield 28, 3) := by decide +kernel
theorem dX2_weigh_10 : decode cX2_weigh 10 = .ok (.if_icmp .ge 53, 3) := by decide +kernel
theorem dX2_weigh_13 : decode cX2_weigh 13 = .ok (.iload_n 2, 1) := by decide +kernel
theorem dX2_weigh_14 : decode cX2_weigh 14 = .ok (.istore_n 3, 1) := by decide +kernel
theorem dX2_weigh_15 : decode cX2_weigh 15 = .ok (.iload_n 3, 1) := by decide +kernel
theorem dX2_weigh_16 : decode cX2_weigh 16 = .ok (.aload_n 0, 1) := by decide +kernel
theorem dX2_weigh_17 : decode cX2_weigh 17 = .ok (.getfield 25, 3) := by decide +kernel
theorem dX2_weigh_20 : decode cX2_weigh 20 = .ok (.getfield 28, 3) := by decide +kernel
theorem dX2_weigh_23 : decode cX2_weigh 23 = .ok (.if_icmp .ge 34, 3) := by decide +kernel
theorem dX2_weigh_26 : decode cX2_weigh 26 = .ok (.aload_n 0, 1) := by decide +kernel
theorem dX2_weigh_27 : decode cX2_weigh 27 = .ok (.iload_n 2, 1) := by decide +kernel
theorem dX2_weigh_28 : decode cX2_weigh 28 = .ok (.iload_n 3, 1) := by decide +kernel
theorem dX2_weigh_29 : decode cX2_weigh 29 = .ok (.invokevirtual 32, 3) := by decide +kernel
theorem dX2_weigh_32 : decode cX2_weigh 32 = .ok (.aload_n 0, 1) := by decide +kernel
theorem dX2_weigh_33 : decode cX2_weigh 33 = .ok (.getfield 18, 3) := by decide +kernel
theorem dX2_weigh_36 : decode cX2_weigh 36 = .ok (.iload_n 2, 1) := by decide +kernel
theorem dX2_weigh_37 : decode cX2_weigh 37 = .ok (.bipush 8, 2) := by decide +kernel
theorem dX2_weigh_39 : decode cX2_weigh 39 = .ok (.imul, 1) := by decide +kernel
theorem dX2_weigh_40 : decode cX2_weigh 40 = .ok (.iload_n 3, 1) := by decide +kernel
theorem dX2_weigh_41 : decode cX2_weigh 41 = .ok (.iadd, 1) := by decide +kernel
theorem dX2_weigh_42 : decode cX2_weigh 42 = .ok (.aload_n 0, 1) := by decide +kernel
theorem dX2_weigh_43 : decode cX2_weigh 43 = .ok (.getfield 12, 3) := by decide +kernel
theorem dX2_weigh_46 : decode cX2_weigh 46 = .ok (.iload_n 1, 1) := by decide +kernel
theorem dX2_weigh_47 : decode cX2_weigh 47 = .ok (.invokevirtual 36, 3) := by decide +kernel
theorem dX2_weigh_50 : decode cX2_weigh 50 = .ok (.iastore, 1) := by decide +kernel
theorem dX2_weigh_51 : decode cX2_weigh 51 = .ok (.iinc 3 1, 3) := by decide +kernel
theorem dX2_weigh_54 : decode cX2_weigh 54 = .ok (.goto (-39), 3) := by decide +kernel
theorem dX2_weigh_57 : decode cX2_weigh 57 = .ok (.iinc 2 1, 3) := by decide +kernel
theorem dX2_weigh_60 : decode cX2_weigh 60 = .ok (.goto (-58), 3) := by decide +kernel
theorem dX2_weigh_63 : decode cX2_weigh 63 = .ok (.aload_n 0, 1) := by decide +kernel
theorem dX2_weigh_64 : decode cX2_weigh 64 = .ok (.getfield 22, 3) := by decide +kernel
theorem dX2_weigh_67 : decode cX2_weigh 67 = .ok (.iconst 0, 1) := by decide +kernel
theorem dX2_weigh_68 : decode cX2_weigh 68 = .ok (.iconst 0, 1) := by decide +kernel
theorem dX2_weigh_69 : decode cX2_weigh 69 = .ok (.iastore, 1) := by decide +kernel
theorem dX2_weigh_70 : decode cX2_weigh 70 = .ok (.aload_n 0, 1) := by decide +kernel
theorem dX2_weigh_71 : decode cX2_weigh 71 = .ok (.invokevirtual 40, 3) := by decide +kernel
theorem dX2_weigh_74 : decode cX2_weigh 74 = .ok (.istore_n 2, 1) := by decide +kernel
theorem dX2_weigh_75 : decode cX2_weigh 75 = .ok (.iconst 1, 1) := by decide +kernel
theorem dX2_weigh_76 : decode cX2_weigh 76 = .ok (.istore_n 3, 1) := by decide +kernel
theorem dX2_weigh_77 : decode cX2_weigh 77 = .ok (.iload_n 3, 1) := by decide +kernel
theorem dX2_weigh_78 : decode cX2_weigh 78 = .ok (.iload_n 2, 1) := by decide +kernel
theorem dX2_weigh_79 : decode cX2_weigh 79 = .ok (.if_icmp .gt 25, 3) := by decide +kernel
theorem dX2_weigh_82 : decode cX2_weigh 82 = .ok (.aload_n 0, 1) := by decide +kernel
theorem dX2_weigh_83 : decode cX2_weigh 83 = .ok (.getfield 22, 3) := by decide +kernel
theorem dX2_weigh_86 : decode cX2_weigh 86 = .ok (.iload_n 3, 1) := by decide +kernel
theorem dX2_weigh_87 : decode cX2_weigh 87 = .ok (.aload_n 0, 1) := by decide +kernel
theorem dX2_weigh_88 : decode cX2_weigh 88 = .ok (.aload_n 0, 1) := by decide +kernel
theorem dX2_weigh_89 : decode cX2_weigh 89 = .ok (.iload_n 3, 1) := by decide +kernel
theorem dX2_weigh_90 : decode cX2_weigh 90 = .ok (.invokevirtual 44, 3) := by decide +kernel
theorem dX2_weigh_93 : decode cX2_weigh 93 = .ok (.iload_n 3, 1) := by decide +kernel
theorem dX2_weigh_94 : decode cX2_weigh 94 = .ok (.invokevirtual 47, 3) := by decide +kernel
theorem dX2_weigh_97 : decode cX2_weigh 97 = .ok (.iastore, 1) := by decide +kernel
theorem dX2_weigh_98 : decode cX2_weigh 98 = .ok (.iinc 3 1, 3) := by decide +kernel
theorem dX2_weigh_101 : decode cX2_weigh 101 = .ok (.goto (-24), 3) := by decide +kernel
theorem dX2_weigh_104 : decode cX2_weigh 104 = .ok (.return_, 1) := by decide +kernel
set_option maxRecDepth 20000 in
theorem ggX2_takeOnly_X6_copyLawsAndDay : GoodIn wsX2_takeOnly wsX6_copyLawsAndDay := goodIn_r _ [12, 13, 14, 46, 47, 48, 49, 50, 51, 52, 53, 54, 55, 56, 57] (by decide +kernel) (by decide +kernel)
set_option maxRecDepth 20000 in
theorem gX2_takeOnly_X6_copyLawsAndDay : GoodIn wsX2_takeOnly (wsV RX2 51 RX6 yX6_copyLawsAndDay wsX6_copyLawsAndDay) := goodIn_app (goodIn_of _ (by decide +kernel)) ggX2_takeOnly_X6_copyLawsAndDay
set_option maxRecDepth 20000 in
theorem ggX2_takeOnly_X6_add : GoodIn wsX2_takeOnly wsX6_add := goodIn_r _ [18, 19, 20, 21, 22, 23, 24, 25, 26, 11, 27, 28, 29, 46, 47, 48, 49, 50, 51, 52, 53, 54, 55, 56, 57] (by decide +kernel) (by decide +kernel)
set_option maxRecDepth 20000 in
theorem gX2_takeOnly_X6_add : GoodIn wsX2_takeOnly (wsV RX2 67 RX6 yX6_add wsX6_add) := goodIn_app (goodIn_of _ (by decide +kernel)) ggX2_takeOnly_X6_add
set_option maxRecDepth 20000 in
theorem ggX2_takeOnly_X6_join : GoodIn wsX2_takeOnly wsX6_join := goodIn_r _ [33, 28, 29, 34, 35, 36, 11, 37, 24, 25, 26, 27, 38, 39, 40, 41, 19, 46, 47, 48, 49, 50, 51, 52, 53, 54, 55, 56, 57] (by decide +kernel) (by decide +kernel)
set_option maxRecDepth 20000 in
theorem gX2_takeOnly_X6_join : GoodIn wsX2_takeOnly (wsV RX2 71 RX6 yX6_join wsX6_join) := goodIn_app (goodIn_of _ (by decide +kernel)) ggX2_takeOnly_X6_join
theorem dX2_takeOnly_0 : decode cX2_takeOnly 0 = .ok (.aload_n 0, 1) := by decide +kernel
theorem dX2_takeOnly_1 : decode cX2_takeOnly 1 = .ok (.getfield 12, 3) := by decide +kernel
theorem dX2_takeOnly_4 : decode cX2_takeOnly 4 = .ok (.aload_n 0, 1) := by decide +kernel
theorem dX2_takeOnly_5 : decode cX2_takeOnly 5 = .ok (.getfield 25, 3) := by decide +kernel
theorem dX2_takeOnly_8 : decode cX2_takeOnly 8 = .ok (.invokevirtual 51, 3) := by decide +kernel
theorem dX2_takeOnly_11 : decode cX2_takeOnly 11 = .ok (.aload_n 0, 1) := by decide +kernel
theorem dX2_takeOnly_12 : decode cX2_takeOnly 12 = .ok (.getfield 12, 3) := by decide +kernel
theorem dX2_takeOnly_15 : decode cX2_takeOnly 15 = .ok (.iconst 0, 1) := by decide +kernel
theorem dX2_takeOnly_16 : decode cX2_takeOnly 16 = .ok (.putfield 28, 3) := by decide +kernel
theorem dX2_takeOnly_19 : decode cX2_takeOnly 19 = .ok (.aload_n 0, 1) := by decide +kernel
theorem dX2_takeOnly_20 : decode cX2_takeOnly 20 = .ok (.getfield 12, 3) := by decide +kernel
theorem dX2_takeOnly_23 : decode cX2_takeOnly 23 = .ok (.aload_n 0, 1) := by decide +kernel
theorem dX2_takeOnly_24 : decode cX2_takeOnly 24 = .ok (.getfield 25, 3) := by decide +kernel
theorem dX2_takeOnly_27 : decode cX2_takeOnly 27 = .ok (.getfield 55, 3) := by decide +kernel
theorem dX2_takeOnly_30 : decode cX2_takeOnly 30 = .ok (.iload_n 1, 1) := by decide +kernel
theorem dX2_takeOnly_31 : decode cX2_takeOnly 31 = .ok (.iaload, 1) := by decide +kernel
theorem dX2_takeOnly_32 : decode cX2_takeOnly 32 = .ok (.aload_n 0, 1) := by decide +kernel
theorem dX2_takeOnly_33 : decode cX2_takeOnly 33 = .ok (.getfield 25, 3) := by decide +kernel
theorem dX2_takeOnly_36 : decode cX2_takeOnly 36 = .ok (.getfield 58, 3) := by decide +kernel
theorem dX2_takeOnly_39 : decode cX2_takeOnly 39 = .ok (.iload_n 1, 1) := by decide +kernel
theorem dX2_takeOnly_40 : decode cX2_takeOnly 40 = .ok (.iaload, 1) := by decide +kernel
theorem dX2_takeOnly_41 : decode cX2_takeOnly 41 = .ok (.aload_n 0, 1) := by decide +kernel
theorem dX2_takeOnly_42 : decode cX2_takeOnly 42 = .ok (.getfield 25, 3) := by decide +kernel
theorem dX2_takeOnly_45 : decode cX2_takeOnly 45 = .ok (.getfield 61, 3) := by decide +kernel
theorem dX2_takeOnly_48 : decode cX2_takeOnly 48 = .ok (.iload_n 1, 1) := by decide +kernel
theorem dX2_takeOnly_49 : decode cX2_takeOnly 49 = .ok (.iaload, 1) := by decide +kernel
theorem dX2_takeOnly_50 : decode cX2_takeOnly 50 = .ok (.aload_n 0, 1) := by decide +kernel
theorem dX2_takeOnly_51 : decode cX2_takeOnly 51 = .ok (.getfield 25, 3) := by decide +kernel
theorem dX2_takeOnly_54 : decode cX2_takeOnly 54 = .ok (.getfield 64, 3) := by decide +kernel
theorem dX2_takeOnly_57 : decode cX2_takeOnly 57 = .ok (.iload_n 1, 1) := by decide +kernel
theorem dX2_takeOnly_58 : decode cX2_takeOnly 58 = .ok (.iaload, 1) := by decide +kernel
theorem dX2_takeOnly_59 : decode cX2_takeOnly 59 = .ok (.invokevirtual 67, 3) := by decide +kernel
theorem dX2_takeOnly_62 : decode cX2_takeOnly 62 = .ok (.iload_n 1, 1) := by decide +kernel
theorem dX2_takeOnly_63 : decode cX2_takeOnly 63 = .ok (.iload_n 2, 1) := by decide +kernel
theorem dX2_takeOnly_64 : decode cX2_takeOnly 64 = .ok (.if_icmp .eq 55, 3) := by decide +kernel
theorem dX2_takeOnly_67 : decode cX2_takeOnly 67 = .ok (.aload_n 0, 1) := by decide +kernel
theorem dX2_takeOnly_68 : decode cX2_takeOnly 68 = .ok (.getfield 12, 3) := by decide +kernel
theorem dX2_takeOnly_71 : decode cX2_takeOnly 71 = .ok (.aload_n 0, 1) := by decide +kernel
theorem dX2_takeOnly_72 : decode cX2_takeOnly 72 = .ok (.getfield 25, 3) := by decide +kernel
theorem dX2_takeOnly_75 : decode cX2_takeOnly 75 = .ok (.getfield 55, 3) := by decide +kernel
theorem dX2_takeOnly_78 : decode cX2_takeOnly 78 = .ok (.iload_n 2, 1) := by decide +kernel
theorem dX2_takeOnly_79 : decode cX2_takeOnly 79 = .ok (.iaload, 1) := by decide +kernel
theorem dX2_takeOnly_80 : decode cX2_takeOnly 80 = .ok (.aload_n 0, 1) := by decide +kernel
theorem dX2_takeOnly_81 : decode cX2_takeOnly 81 = .ok (.getfield 25, 3) := by decide +kernel
theorem dX2_takeOnly_84 : decode cX2_takeOnly 84 = .ok (.getfield 58, 3) := by decide +kernel
theorem dX2_takeOnly_87 : decode cX2_takeOnly 87 = .ok (.iload_n 2, 1) := by decide +kernel
theorem dX2_takeOnly_88 : decode cX2_takeOnly 88 = .ok (.iaload, 1) := by decide +kernel
theorem dX2_takeOnly_89 : decode cX2_takeOnly 89 = .ok (.aload_n 0, 1) := by decide +kernel
theorem dX2_takeOnly_90 : decode cX2_takeOnly 90 = .ok (.getfield 25, 3) := by decide +kernel
theorem dX2_takeOnly_93 : decode cX2_takeOnly 93 = .ok (.getfield 61, 3) := by decide +kernel
theorem dX2_takeOnly_96 : decode cX2_takeOnly 96 = .ok (.iload_n 2, 1) := by decide +kernel
theorem dX2_takeOnly_97 : decode cX2_takeOnly 97 = .ok (.iaload, 1) := by decide +kernel
theorem dX2_takeOnly_98 : decode cX2_takeOnly 98 = .ok (.aload_n 0, 1) := by decide +kernel
theorem dX2_takeOnly_99 : decode cX2_takeOnly 99 = .ok (.getfield 25, 3) := by decide +kernel
theorem dX2_takeOnly_102 : decode cX2_takeOnly 102 = .ok (.getfield 64, 3) := by decide +kernel
theorem dX2_takeOnly_105 : decode cX2_takeOnly 105 = .ok (.iload_n 2, 1) := by decide +kernel
theorem dX2_takeOnly_106 : decode cX2_takeOnly 106 = .ok (.iaload, 1) := by decide +kernel
theorem dX2_takeOnly_107 : decode cX2_takeOnly 107 = .ok (.invokevirtual 67, 3) := by decide +kernel
theorem dX2_takeOnly_110 : decode cX2_takeOnly 110 = .ok (.aload_n 0, 1) := by decide +kernel
theorem dX2_takeOnly_111 : decode cX2_takeOnly 111 = .ok (.getfield 12, 3) := by decide +kernel
theorem dX2_takeOnly_114 : decode cX2_takeOnly 114 = .ok (.iconst 0, 1) := by decide +kernel
theorem dX2_takeOnly_115 : decode cX2_takeOnly 115 = .ok (.iconst 1, 1) := by decide +kernel
theorem dX2_takeOnly_116 : decode cX2_takeOnly 116 = .ok (.invokevirtual 71, 3) := by decide +kernel
theorem dX2_takeOnly_119 : decode cX2_takeOnly 119 = .ok (.return_, 1) := by decide +kernel
theorem dX2_everyone_0 : decode cX2_everyone 0 = .ok (.iconst 1, 1) := by decide +kernel
theorem dX2_everyone_1 : decode cX2_everyone 1 = .ok (.aload_n 0, 1) := by decide +kernel
theorem dX2_everyone_2 : decode cX2_everyone 2 = .ok (.getfield 25, 3) := by decide +kernel
theorem dX2_everyone_5 : decode cX2_everyone 5 = .ok (.getfield 28, 3) := by decide +kernel
theorem dX2_everyone_8 : decode cX2_everyone 8 = .ok (.ishl, 1) := by decide +kernel
theorem dX2_everyone_9 : decode cX2_everyone 9 = .ok (.iconst 1, 1) := by decide +kernel
theorem dX2_everyone_10 : decode cX2_everyone 10 = .ok (.isub, 1) := by decide +kernel
theorem dX2_everyone_11 : decode cX2_everyone 11 = .ok (.ireturn, 1) := by decide +kernel
theorem dX2_firstOf_0 : decode cX2_firstOf 0 = .ok (.iconst 0, 1) := by decide +kernel
theorem dX2_firstOf_1 : decode cX2_firstOf 1 = .ok (.istore_n 2, 1) := by decide +kernel
theorem dX2_firstOf_2 : decode cX2_firstOf 2 = .ok (.iload_n 2, 1) := by decide +kernel
theorem dX2_firstOf_3 : decode cX2_firstOf 3 = .ok (.bipush 8, 2) := by decide +kernel
theorem dX2_firstOf_5 : decode cX2_firstOf 5 = .ok (.if_icmp .ge 20, 3) := by decide +kernel
theorem dX2_firstOf_8 : decode cX2_firstOf 8 = .ok (.iload_n 1, 1) := by decide +kernel
theorem dX2_firstOf_9 : decode cX2_firstOf 9 = .ok (.iload_n 2, 1) := by decide +kernel
theorem dX2_firstOf_10 : decode cX2_firstOf 10 = .ok (.ishr, 1) := by decide +kernel
theorem dX2_firstOf_11 : decode cX2_firstOf 11 = .ok (.iconst 1, 1) := by decide +kernel
theorem dX2_firstOf_12 : decode cX2_firstOf 12 = .ok (.iand, 1) := by decide +kernel
theorem dX2_firstOf_13 : decode cX2_firstOf 13 = .ok (.iconst 1, 1) := by decide +kernel
theorem dX2_firstOf_14 : decode cX2_firstOf 14 = .ok (.if_icmp .ne 5, 3) := by decide +kernel
theorem dX2_firstOf_17 : decode cX2_firstOf 17 = .ok (.iload_n 2, 1) := by decide +kernel
theorem dX2_firstOf_18 : decode cX2_firstOf 18 = .ok (.ireturn, 1) := by decide +kernel
theorem dX2_firstOf_19 : decode cX2_firstOf 19 = .ok (.iinc 2 1, 3) := by decide +kernel
theorem dX2_firstOf_22 : decode cX2_firstOf 22 = .ok (.goto (-20), 3) := by decide +kernel
theorem dX2_firstOf_25 : decode cX2_firstOf 25 = .ok (.iconst 0, 1) := by decide +kernel
theorem dX2_firstOf_26 : decode cX2_firstOf 26 = .ok (.ireturn, 1) := by decide +kernel
set_option maxRecDepth 20000 in
theorem ggX2_mostWith_X2_soundIf : GoodIn wsX2_mostWith wsX2_soundIf := goodIn_r _ [11, 12, 13, 14, 15, 16, 10, 17, 18, 19, 20, 21] (by decide +kernel) (by decide +kernel)
set_option maxRecDepth 20000 in
theorem gX2_mostWith_X2_soundIf : GoodIn wsX2_mostWith (wsV RX2 74 RX2 yX2_soundIf wsX2_soundIf) := goodIn_app (goodIn_of _ (by decide +kernel)) ggX2_mostWith_X2_soundIf
theorem dX2_mostWith_0 : decode cX2_mostWith 0 = .ok (.iconst 0, 1) := by decide +kernel
theorem dX2_mostWith_1 : decode cX2_mostWith 1 = .ok (.istore_n 3, 1) := by decide +kernel
theorem dX2_mostWith_2 : decode cX2_mostWith 2 = .ok (.iload_n 1, 1) := by decide +kernel
theorem dX2_mostWith_3 : decode cX2_mostWith 3 = .ok (.istore 4, 2) := by decide +kernel
theorem dX2_mostWith_5 : decode cX2_mostWith 5 = .ok (.iload 4, 2) := by decide +kernel
theorem dX2_mostWith_7 : decode cX2_mostWith 7 = .ok (.aload_n 0, 1) := by decide +kernel
theorem dX2_mostWith_8 : decode cX2_mostWith 8 = .ok (.getfield 25, 3) := by decide +kernel
theorem dX2_mostWith_11 : decode cX2_mostWith 11 = .ok (.getfield 28, 3) := by decide +kernel
theorem dX2_mostWith_14 : decode cX2_mostWith 14 = .ok (.if_icmp .ge 32, 3) := by decide +kernel
theorem dX2_mostWith_17 : decode cX2_mostWith 17 = .ok (.iload_n 2, 1) := by decide +kernel
theorem dX2_mostWith_18 : decode cX2_mostWith 18 = .ok (.iload 4, 2) := by decide +kernel
theorem dX2_mostWith_20 : decode cX2_mostWith 20 = .ok (.ishr, 1) := by decide +kernel
theorem dX2_mostWith_21 : decode cX2_mostWith 21 = .ok (.iconst 1, 1) := by decide +kernel
theorem dX2_mostWith_22 : decode cX2_mostWith 22 = .ok (.iand, 1) := by decide +kernel
theorem dX2_mostWith_23 : decode cX2_mostWith 23 = .ok (.iconst 1, 1) := by decide +kernel
theorem dX2_mostWith_24 : decode cX2_mostWith 24 = .ok (.if_icmp .ne 16, 3) := by decide +kernel
theorem dX2_mostWith_27 : decode cX2_mostWith 27 = .ok (.iload_n 3, 1) := by decide +kernel
theorem dX2_mostWith_28 : decode cX2_mostWith 28 = .ok (.aload_n 0, 1) := by decide +kernel
theorem dX2_mostWith_29 : decode cX2_mostWith 29 = .ok (.iload_n 1, 1) := by decide +kernel
theorem dX2_mostWith_30 : decode cX2_mostWith 30 = .ok (.iload 4, 2) := by decide +kernel
theorem dX2_mostWith_32 : decode cX2_mostWith 32 = .ok (.iload_n 2, 1) := by decide +kernel
theorem dX2_mostWith_33 : decode cX2_mostWith 33 = .ok (.invokevirtual 74, 3) := by decide +kernel
theorem dX2_mostWith_36 : decode cX2_mostWith 36 = .ok (.invokestatic 78, 3) := by decide +kernel
theorem dX2_mostWith_39 : decode cX2_mostWith 39 = .ok (.istore_n 3, 1) := by decide +kernel
theorem dX2_mostWith_40 : decode cX2_mostWith 40 = .ok (.iinc 4 1, 3) := by decide +kernel
theorem dX2_mostWith_43 : decode cX2_mostWith 43 = .ok (.goto (-38), 3) := by decide +kernel
theorem dX2_mostWith_46 : decode cX2_mostWith 46 = .ok (.iload_n 3, 1) := by decide +kernel
theorem dX2_mostWith_47 : decode cX2_mostWith 47 = .ok (.ireturn, 1) := by decide +kernel
set_option maxRecDepth 20000 in
theorem ggX2_soundIf_X2_without : GoodIn wsX2_soundIf wsX2_without := goodIn_r _ [7] (by decide +kernel) (by decide +kernel)
set_option maxRecDepth 20000 in
theorem gX2_soundIf_X2_without : GoodIn wsX2_soundIf (wsV RX2 83 RX2 yX2_without wsX2_without) := goodIn_app (goodIn_of _ (by decide +kernel)) ggX2_soundIf_X2_without
theorem dX2_soundIf_0 : decode cX2_soundIf 0 = .ok (.aload_n 0, 1) := by decide +kernel
theorem dX2_soundIf_1 : decode cX2_soundIf 1 = .ok (.getfield 18, 3) := by decide +kernel
theorem dX2_soundIf_4 : decode cX2_soundIf 4 = .ok (.iload_n 1, 1) := by decide +kernel
theorem dX2_soundIf_5 : decode cX2_soundIf 5 = .ok (.bipush 8, 2) := by decide +kernel
theorem dX2_soundIf_7 : decode cX2_soundIf 7 = .ok (.imul, 1) := by decide +kernel
theorem dX2_soundIf_8 : decode cX2_soundIf 8 = .ok (.iload_n 2, 1) := by decide +kernel
theorem dX2_soundIf_9 : decode cX2_soundIf 9 = .ok (.iadd, 1) := by decide +kernel
theorem dX2_soundIf_10 : decode cX2_soundIf 10 = .ok (.iaload, 1) := by decide +kernel
theorem dX2_soundIf_11 : decode cX2_soundIf 11 = .ok (.aload_n 0, 1) := by decide +kernel
theorem dX2_soundIf_12 : decode cX2_soundIf 12 = .ok (.getfield 22, 3) := by decide +kernel
theorem dX2_soundIf_15 : decode cX2_soundIf 15 = .ok (.aload_n 0, 1) := by decide +kernel
theorem dX2_soundIf_16 : decode cX2_soundIf 16 = .ok (.iload_n 1, 1) := by decide +kernel
theorem dX2_soundIf_17 : decode cX2_soundIf 17 = .ok (.iload_n 2, 1) := by decide +kernel
theorem dX2_soundIf_18 : decode cX2_soundIf 18 = .ok (.iload_n 3, 1) := by decide +kernel
theorem dX2_soundIf_19 : decode cX2_soundIf 19 = .ok (.invokevirtual 83, 3) := by decide +kernel
theorem dX2_soundIf_22 : decode cX2_soundIf 22 = .ok (.iaload, 1) := by decide +kernel
theorem dX2_soundIf_23 : decode cX2_soundIf 23 = .ok (.iadd, 1) := by decide +kernel
theorem dX2_soundIf_24 : decode cX2_soundIf 24 = .ok (.ireturn, 1) := by decide +kernel
theorem dX2_without_0 : decode cX2_without 0 = .ok (.iload_n 3, 1) := by decide +kernel
theorem dX2_without_1 : decode cX2_without 1 = .ok (.iconst 1, 1) := by decide +kernel
theorem dX2_without_2 : decode cX2_without 2 = .ok (.iload_n 1, 1) := by decide +kernel
theorem dX2_without_3 : decode cX2_without 3 = .ok (.ishl, 1) := by decide +kernel
theorem dX2_without_4 : decode cX2_without 4 = .ok (.iconst 1, 1) := by decide +kernel
theorem dX2_without_5 : decode cX2_without 5 = .ok (.iload_n 2, 1) := by decide +kernel
theorem dX2_without_6 : decode cX2_without 6 = .ok (.ishl, 1) := by decide +kernel
theorem dX2_without_7 : decode cX2_without 7 = .ok (.ior, 1) := by decide +kernel
theorem dX2_without_8 : decode cX2_without 8 = .ok (.iconst (-1), 1) := by decide +kernel
theorem dX2_without_9 : decode cX2_without 9 = .ok (.ixor, 1) := by decide +kernel
theorem dX2_without_10 : decode cX2_without 10 = .ok (.iand, 1) := by decide +kernel
theorem dX2_without_11 : decode cX2_without 11 = .ok (.ireturn, 1) := by decide +kernel
set_option maxRecDepth 20000 in
theorem ggX2_mostSound_X2_everyone : GoodIn wsX2_mostSound wsX2_everyone := goodIn_r _ [6, 7, 8, 9, 10, 11, 12, 13, 14, 15, 16, 17, 18, 19, 20, 21, 22, 23, 24] (by decide +kernel) (by decide +kernel)
set_option maxRecDepth 20000 in
theorem gX2_mostSound_X2_everyone : GoodIn wsX2_mostSound (wsV RX2 40 RX2 yX2_everyone wsX2_everyone) := goodIn_app (goodIn_of _ (by decide +kernel)) ggX2_mostSound_X2_everyone
theorem dX2_mostSound_0 : decode cX2_mostSound 0 = .ok (.aload_n 0, 1) := by decide +kernel
theorem dX2_mostSound_1 : decode cX2_mostSound 1 = .ok (.getfield 22, 3) := by decide +kernel
theorem dX2_mostSound_4 : decode cX2_mostSound 4 = .ok (.aload_n 0, 1) := by decide +kernel
theorem dX2_mostSound_5 : decode cX2_mostSound 5 = .ok (.invokevirtual 40, 3) := by decide +kernel
theorem dX2_mostSound_8 : decode cX2_mostSound 8 = .ok (.iaload, 1) := by decide +kernel
theorem dX2_mostSound_9 : decode cX2_mostSound 9 = .ok (.ireturn, 1) := by decide +kernel
set_option maxRecDepth 20000 in
theorem ggX2_partnerInFirstWay_X2_everyone : GoodIn wsX2_partnerInFirstWay wsX2_everyone := goodIn_r _ [7, 1, 2, 22, 23, 24, 25, 26, 27, 28, 29, 30, 31, 32, 33, 34, 35, 36, 37] (by decide +kernel) (by decide +kernel)
set_option maxRecDepth 20000 in
theorem gX2_partnerInFirstWay_X2_everyone : GoodIn wsX2_partnerInFirstWay (wsV RX2 40 RX2 yX2_everyone wsX2_everyone) := goodIn_app (goodIn_of _ (by decide +kernel)) ggX2_partnerInFirstWay_X2_everyone
set_option maxRecDepth 20000 in
theorem ggX2_partnerInFirstWay_X2_firstChoice : GoodIn wsX2_partnerInFirstWay wsX2_firstChoice := goodIn_r _ [11, 1, 2, 12, 13, 14, 15, 6, 16, 17, 18, 19, 20, 21, 22, 23, 24, 25, 26, 27, 28, 29, 30, 31, 32, 33, 34, 35, 36, 37] (by decide +kernel) (by decide +kernel)
set_option maxRecDepth 20000 in
theorem gX2_partnerInFirstWay_X2_firstChoice : GoodIn wsX2_partnerInFirstWay (wsV RX2 86 RX2 yX2_firstChoice wsX2_firstChoice) := goodIn_app (goodIn_of _ (by decide +kernel)) ggX2_partnerInFirstWay_X2_firstChoice
set_option maxRecDepth 20000 in
theorem ggX2_partnerInFirstWay_X2_without : GoodIn wsX2_partnerInFirstWay wsX2_without := goodIn_r _ [21] (by decide +kernel) (by decide +kernel)
set_option maxRecDepth 20000 in
theorem gX2_partnerInFirstWay_X2_without : GoodIn wsX2_partnerInFirstWay (wsV RX2 83 RX2 yX2_without wsX2_without) := goodIn_app (goodIn_of _ (by decide +kernel)) ggX2_partnerInFirstWay_X2_without
theorem dX2_partnerInFirstWay_0 : decode cX2_partnerInFirstWay 0 = .ok (.aload_n 0, 1) := by decide +kernel
theorem dX2_partnerInFirstWay_1 : decode cX2_partnerInFirstWay 1 = .ok (.invokevirtual 40, 3) := by decide +kernel
theorem dX2_partnerInFirstWay_4 : decode cX2_partnerInFirstWay 4 = .ok (.istore_n 2, 1) := by decide +kernel
theorem dX2_partnerInFirstWay_5 : decode cX2_partnerInFirstWay 5 = .ok (.iconst 0, 1) := by decide +kernel
theorem dX2_partnerInFirstWay_6 : decode cX2_partnerInFirstWay 6 = .ok (.istore_n 3, 1) := by decide +kernel
theorem dX2_partnerInFirstWay_7 : decode cX2_partnerInFirstWay 7 = .ok (.iload_n 3, 1) := by decide +kernel
theorem dX2_partnerInFirstWay_8 : decode cX2_partnerInFirstWay 8 = .ok (.aload_n 0, 1) := by decide +kernel
theorem dX2_partnerInFirstWay_9 : decode cX2_partnerInFirstWay 9 = .ok (.getfield 25, 3) := by decide +kernel
theorem dX2_partnerInFirstWay_12 : decode cX2_partnerInFirstWay 12 = .ok (.getfield 28, 3) := by decide +kernel
theorem dX2_partnerInFirstWay_15 : decode cX2_partnerInFirstWay 15 = .ok (.if_icmp .ge 51, 3) := by decide +kernel
theorem dX2_partnerInFirstWay_18 : decode cX2_partnerInFirstWay 18 = .ok (.iload_n 2, 1) := by decide +kernel
theorem dX2_partnerInFirstWay_19 : decode cX2_partnerInFirstWay 19 = .ok (.iload_n 3, 1) := by decide +kernel
theorem dX2_partnerInFirstWay_20 : decode cX2_partnerInFirstWay 20 = .ok (.ishr, 1) := by decide +kernel
theorem dX2_partnerInFirstWay_21 : decode cX2_partnerInFirstWay 21 = .ok (.iconst 1, 1) := by decide +kernel
theorem dX2_partnerInFirstWay_22 : decode cX2_partnerInFirstWay 22 = .ok (.iand, 1) := by decide +kernel
theorem dX2_partnerInFirstWay_23 : decode cX2_partnerInFirstWay 23 = .ok (.iconst 1, 1) := by decide +kernel
theorem dX2_partnerInFirstWay_24 : decode cX2_partnerInFirstWay 24 = .ok (.if_icmp .ne 36, 3) := by decide +kernel
theorem dX2_partnerInFirstWay_27 : decode cX2_partnerInFirstWay 27 = .ok (.aload_n 0, 1) := by decide +kernel
theorem dX2_partnerInFirstWay_28 : decode cX2_partnerInFirstWay 28 = .ok (.iload_n 3, 1) := by decide +kernel
theorem dX2_partnerInFirstWay_29 : decode cX2_partnerInFirstWay 29 = .ok (.iload_n 2, 1) := by decide +kernel
theorem dX2_partnerInFirstWay_30 : decode cX2_partnerInFirstWay 30 = .ok (.invokevirtual 86, 3) := by decide +kernel
theorem dX2_partnerInFirstWay_33 : decode cX2_partnerInFirstWay 33 = .ok (.istore 4, 2) := by decide +kernel
theorem dX2_partnerInFirstWay_35 : decode cX2_partnerInFirstWay 35 = .ok (.iload_n 3, 1) := by decide +kernel
theorem dX2_partnerInFirstWay_36 : decode cX2_partnerInFirstWay 36 = .ok (.iload_n 1, 1) := by decide +kernel
theorem dX2_partnerInFirstWay_37 : decode cX2_partnerInFirstWay 37 = .ok (.if_icmp .ne 6, 3) := by decide +kernel
theorem dX2_partnerInFirstWay_40 : decode cX2_partnerInFirstWay 40 = .ok (.iload 4, 2) := by decide +kernel
theorem dX2_partnerInFirstWay_42 : decode cX2_partnerInFirstWay 42 = .ok (.ireturn, 1) := by decide +kernel
theorem dX2_partnerInFirstWay_43 : decode cX2_partnerInFirstWay 43 = .ok (.iload 4, 2) := by decide +kernel
theorem dX2_partnerInFirstWay_45 : decode cX2_partnerInFirstWay 45 = .ok (.iload_n 1, 1) := by decide +kernel
theorem dX2_partnerInFirstWay_46 : decode cX2_partnerInFirstWay 46 = .ok (.if_icmp .ne 5, 3) := by decide +kernel
theorem dX2_partnerInFirstWay_49 : decode cX2_partnerInFirstWay 49 = .ok (.iload_n 3, 1) := by decide +kernel
theorem dX2_partnerInFirstWay_50 : decode cX2_partnerInFirstWay 50 = .ok (.ireturn, 1) := by decide +kernel
theorem dX2_partnerInFirstWay_51 : decode cX2_partnerInFirstWay 51 = .ok (.aload_n 0, 1) := by decide +kernel
theorem dX2_partnerInFirstWay_52 : decode cX2_partnerInFirstWay 52 = .ok (.iload_n 3, 1) := by decide +kernel
theorem dX2_partnerInFirstWay_53 : decode cX2_partnerInFirstWay 53 = .ok (.iload 4, 2) := by decide +kernel
theorem dX2_partnerInFirstWay_55 : decode cX2_partnerInFirstWay 55 = .ok (.iload_n 2, 1) := by decide +kernel
theorem dX2_partnerInFirstWay_56 : decode cX2_partnerInFirstWay 56 = .ok (.invokevirtual 83, 3) := by decide +kernel
theorem dX2_partnerInFirstWay_59 : decode cX2_partnerInFirstWay 59 = .ok (.istore_n 2, 1) := by decide +kernel
theorem dX2_partnerInFirstWay_60 : decode cX2_partnerInFirstWay 60 = .ok (.iinc 3 1, 3) := by decide +kernel
theorem dX2_partnerInFirstWay_63 : decode cX2_partnerInFirstWay 63 = .ok (.goto (-56), 3) := by decide +kernel
theorem dX2_partnerInFirstWay_66 : decode cX2_partnerInFirstWay 66 = .ok (.iload_n 1, 1) := by decide +kernel
theorem dX2_partnerInFirstWay_67 : decode cX2_partnerInFirstWay 67 = .ok (.ireturn, 1) := by decide +kernel
set_option maxRecDepth 20000 in
theorem ggX2_firstChoice_X2_soundIf : GoodIn wsX2_firstChoice wsX2_soundIf := goodIn_r _ [8, 9, 3, 10, 11, 12, 7, 13, 14, 15, 16, 17] (by decide +kernel) (by decide +kernel)
set_option maxRecDepth 20000 in
theorem gX2_firstChoice_X2_soundIf : GoodIn wsX2_firstChoice (wsV RX2 74 RX2 yX2_soundIf wsX2_soundIf) := goodIn_app (goodIn_of _ (by decide +kernel)) ggX2_firstChoice_X2_soundIf
theorem dX2_firstChoice_0 : decode cX2_firstChoice 0 = .ok (.iload_n 1, 1) := by decide +kernel
theorem dX2_firstChoice_1 : decode cX2_firstChoice 1 = .ok (.istore_n 3, 1) := by decide +kernel
theorem dX2_firstChoice_2 : decode cX2_firstChoice 2 = .ok (.iload_n 3, 1) := by decide +kernel
theorem dX2_firstChoice_3 : decode cX2_firstChoice 3 = .ok (.aload_n 0, 1) := by decide +kernel
theorem dX2_firstChoice_4 : decode cX2_firstChoice 4 = .ok (.getfield 25, 3) := by decide +kernel
theorem dX2_firstChoice_7 : decode cX2_firstChoice 7 = .ok (.getfield 28, 3) := by decide +kernel
theorem dX2_firstChoice_10 : decode cX2_firstChoice 10 = .ok (.if_icmp .ge 36, 3) := by decide +kernel
theorem dX2_firstChoice_13 : decode cX2_firstChoice 13 = .ok (.iload_n 2, 1) := by decide +kernel
theorem dX2_firstChoice_14 : decode cX2_firstChoice 14 = .ok (.iload_n 3, 1) := by decide +kernel
theorem dX2_firstChoice_15 : decode cX2_firstChoice 15 = .ok (.ishr, 1) := by decide +kernel
theorem dX2_firstChoice_16 : decode cX2_firstChoice 16 = .ok (.iconst 1, 1) := by decide +kernel
theorem dX2_firstChoice_17 : decode cX2_firstChoice 17 = .ok (.iand, 1) := by decide +kernel
theorem dX2_firstChoice_18 : decode cX2_firstChoice 18 = .ok (.iconst 1, 1) := by decide +kernel
theorem dX2_firstChoice_19 : decode cX2_firstChoice 19 = .ok (.if_icmp .ne 21, 3) := by decide +kernel
theorem dX2_firstChoice_22 : decode cX2_firstChoice 22 = .ok (.aload_n 0, 1) := by decide +kernel
theorem dX2_firstChoice_23 : decode cX2_firstChoice 23 = .ok (.iload_n 1, 1) := by decide +kernel
theorem dX2_firstChoice_24 : decode cX2_firstChoice 24 = .ok (.iload_n 3, 1) := by decide +kernel
theorem dX2_firstChoice_25 : decode cX2_firstChoice 25 = .ok (.iload_n 2, 1) := by decide +kernel
theorem dX2_firstChoice_26 : decode cX2_firstChoice 26 = .ok (.invokevirtual 74, 3) := by decide +kernel
theorem dX2_firstChoice_29 : decode cX2_firstChoice 29 = .ok (.aload_n 0, 1) := by decide +kernel
theorem dX2_firstChoice_30 : decode cX2_firstChoice 30 = .ok (.getfield 22, 3) := by decide +kernel
theorem dX2_firstChoice_33 : decode cX2_firstChoice 33 = .ok (.iload_n 2, 1) := by decide +kernel
theorem dX2_firstChoice_34 : decode cX2_firstChoice 34 = .ok (.iaload, 1) := by decide +kernel
theorem dX2_firstChoice_35 : decode cX2_firstChoice 35 = .ok (.if_icmp .ne 5, 3) := by decide +kernel
theorem dX2_firstChoice_38 : decode cX2_firstChoice 38 = .ok (.iload_n 3, 1) := by decide +kernel
theorem dX2_firstChoice_39 : decode cX2_firstChoice 39 = .ok (.ireturn, 1) := by decide +kernel
theorem dX2_firstChoice_40 : decode cX2_firstChoice 40 = .ok (.iinc 3 1, 3) := by decide +kernel
theorem dX2_firstChoice_43 : decode cX2_firstChoice 43 = .ok (.goto (-41), 3) := by decide +kernel
theorem dX2_firstChoice_46 : decode cX2_firstChoice 46 = .ok (.iload_n 1, 1) := by decide +kernel
theorem dX2_firstChoice_47 : decode cX2_firstChoice 47 = .ok (.ireturn, 1) := by decide +kernel
theorem dX3_init_0 : decode cX3_init 0 = .ok (.aload_n 0, 1) := by decide +kernel
theorem dX3_init_1 : decode cX3_init 1 = .ok (.invokespecial 3, 3) := by decide +kernel
theorem dX3_init_4 : decode cX3_init 4 = .ok (.aload_n 0, 1) := by decide +kernel
theorem dX3_init_5 : decode cX3_init 5 = .ok (.iload_n 1, 1) := by decide +kernel
theorem dX3_init_6 : decode cX3_init 6 = .ok (.putfield 9, 3) := by decide +kernel
theorem dX3_init_9 : decode cX3_init 9 = .ok (.aload_n 0, 1) := by decide +kernel
theorem dX3_init_10 : decode cX3_init 10 = .ok (.iconst 0, 1) := by decide +kernel
theorem dX3_init_11 : decode cX3_init 11 = .ok (.bipush 40, 2) := by decide +kernel
theorem dX3_init_13 : decode cX3_init 13 = .ok (.iload_n 2, 1) := by decide +kernel
theorem dX3_init_14 : decode cX3_init 14 = .ok (.invokestatic 15, 3) := by decide +kernel
theorem dX3_init_17 : decode cX3_init 17 = .ok (.invokestatic 21, 3) := by decide +kernel
theorem dX3_init_20 : decode cX3_init 20 = .ok (.newarray .long, 2) := by decide +kernel
theorem dX3_init_22 : decode cX3_init 22 = .ok (.putfield 24, 3) := by decide +kernel
theorem dX3_init_25 : decode cX3_init 25 = .ok (.return_, 1) := by decide +kernel
theorem dX3_has_0 : decode cX3_has 0 = .ok (.iload_n 1, 1) := by decide +kernel
theorem dX3_has_1 : decode cX3_has 1 = .ok (.ifCond .lt 16, 3) := by decide +kernel
theorem dX3_has_4 : decode cX3_has 4 = .ok (.iload_n 1, 1) := by decide +kernel
theorem dX3_has_5 : decode cX3_has 5 = .ok (.aload_n 0, 1) := by decide +kernel
theorem dX3_has_6 : decode cX3_has 6 = .ok (.getfield 24, 3) := by decide +kernel
theorem dX3_has_9 : decode cX3_has 9 = .ok (.arraylength, 1) := by decide +kernel
theorem dX3_has_10 : decode cX3_has 10 = .ok (.if_icmp .ge 7, 3) := by decide +kernel
theorem dX3_has_13 : decode cX3_has 13 = .ok (.iconst 1, 1) := by decide +kernel
theorem dX3_has_14 : decode cX3_has 14 = .ok (.goto 4, 3) := by decide +kernel
theorem dX3_has_17 : decode cX3_has 17 = .ok (.iconst 0, 1) := by decide +kernel
theorem dX3_has_18 : decode cX3_has 18 = .ok (.ireturn, 1) := by decide +kernel
theorem dX3_narrowed_0 : decode cX3_narrowed 0 = .ok (.aload_n 0, 1) := by decide +kernel
theorem dX3_narrowed_1 : decode cX3_narrowed 1 = .ok (.getfield 9, 3) := by decide +kernel
theorem dX3_narrowed_4 : decode cX3_narrowed 4 = .ok (.lookupswitch 36 #[(0, 28), (1, 32)], 28) := by decide +kernel
theorem dX3_narrowed_32 : decode cX3_narrowed 32 = .ok (.iload_n 1, 1) := by decide +kernel
theorem dX3_narrowed_33 : decode cX3_narrowed 33 = .ok (.i2b, 1) := by decide +kernel
theorem dX3_narrowed_34 : decode cX3_narrowed 34 = .ok (.i2l, 1) := by decide +kernel
theorem dX3_narrowed_35 : decode cX3_narrowed 35 = .ok (.lreturn, 1) := by decide +kernel
theorem dX3_narrowed_36 : decode cX3_narrowed 36 = .ok (.iload_n 1, 1) := by decide +kernel
theorem dX3_narrowed_37 : decode cX3_narrowed 37 = .ok (.i2s, 1) := by decide +kernel
theorem dX3_narrowed_38 : decode cX3_narrowed 38 = .ok (.i2l, 1) := by decide +kernel
theorem dX3_narrowed_39 : decode cX3_narrowed 39 = .ok (.lreturn, 1) := by decide +kernel
theorem dX3_narrowed_40 : decode cX3_narrowed 40 = .ok (.iload_n 1, 1) := by decide +kernel
theorem dX3_narrowed_41 : decode cX3_narrowed 41 = .ok (.i2l, 1) := by decide +kernel
theorem dX3_narrowed_42 : decode cX3_narrowed 42 = .ok (.lreturn, 1) := by decide +kernel
theorem dX4_init_0 : decode cX4_init 0 = .ok (.aload_n 0, 1) := by decide +kernel
theorem dX4_init_1 : decode cX4_init 1 = .ok (.invokespecial 3, 3) := by decide +kernel
theorem dX4_init_4 : decode cX4_init 4 = .ok (.aload_n 0, 1) := by decide +kernel
theorem dX4_init_5 : decode cX4_init 5 = .ok (.sipush 200, 3) := by decide +kernel
theorem dX4_init_8 : decode cX4_init 8 = .ok (.newarray .byte, 2) := by decide +kernel
theorem dX4_init_10 : decode cX4_init 10 = .ok (.putfield 9, 3) := by decide +kernel
theorem dX4_init_13 : decode cX4_init 13 = .ok (.aload_n 0, 1) := by decide +kernel
theorem dX4_init_14 : decode cX4_init 14 = .ok (.iconst 0, 1) := by decide +kernel
theorem dX4_init_15 : decode cX4_init 15 = .ok (.putfield 15, 3) := by decide +kernel
theorem dX4_init_18 : decode cX4_init 18 = .ok (.return_, 1) := by decide +kernel
theorem dX4_take_0 : decode cX4_take 0 = .ok (.iconst 0, 1) := by decide +kernel
theorem dX4_take_1 : decode cX4_take 1 = .ok (.istore 4, 2) := by decide +kernel
theorem dX4_take_3 : decode cX4_take 3 = .ok (.iload 4, 2) := by decide +kernel
theorem dX4_take_5 : decode cX4_take 5 = .ok (.iload_n 3, 1) := by decide +kernel
theorem dX4_take_6 : decode cX4_take 6 = .ok (.if_icmp .ge 47, 3) := by decide +kernel
theorem dX4_take_9 : decode cX4_take 9 = .ok (.aload_n 0, 1) := by decide +kernel
theorem dX4_take_10 : decode cX4_take 10 = .ok (.getfield 15, 3) := by decide +kernel
theorem dX4_take_13 : decode cX4_take 13 = .ok (.sipush 200, 3) := by decide +kernel
theorem dX4_take_16 : decode cX4_take 16 = .ok (.if_icmp .ge 37, 3) := by decide +kernel
theorem dX4_take_19 : decode cX4_take 19 = .ok (.aload_n 0, 1) := by decide +kernel
theorem dX4_take_20 : decode cX4_take 20 = .ok (.getfield 9, 3) := by decide +kernel
theorem dX4_take_23 : decode cX4_take 23 = .ok (.aload_n 0, 1) := by decide +kernel
theorem dX4_take_24 : decode cX4_take 24 = .ok (.getfield 15, 3) := by decide +kernel
theorem dX4_take_27 : decode cX4_take 27 = .ok (.lload_n 1, 1) := by decide +kernel
theorem dX4_take_28 : decode cX4_take 28 = .ok (.bipush 8, 2) := by decide +kernel
theorem dX4_take_30 : decode cX4_take 30 = .ok (.iload 4, 2) := by decide +kernel
theorem dX4_take_32 : decode cX4_take 32 = .ok (.imul, 1) := by decide +kernel
theorem dX4_take_33 : decode cX4_take 33 = .ok (.lushr, 1) := by decide +kernel
theorem dX4_take_34 : decode cX4_take 34 = .ok (.l2i, 1) := by decide +kernel
theorem dX4_take_35 : decode cX4_take 35 = .ok (.i2b, 1) := by decide +kernel
theorem dX4_take_36 : decode cX4_take 36 = .ok (.bastore, 1) := by decide +kernel
theorem dX4_take_37 : decode cX4_take 37 = .ok (.aload_n 0, 1) := by decide +kernel
theorem dX4_take_38 : decode cX4_take 38 = .ok (.dup, 1) := by decide +kernel
theorem dX4_take_39 : decode cX4_take 39 = .ok (.getfield 15, 3) := by decide +kernel
theorem dX4_take_42 : decode cX4_take 42 = .ok (.iconst 1, 1) := by decide +kernel
theorem dX4_take_43 : decode cX4_take 43 = .ok (.iadd, 1) := by decide +kernel
theorem dX4_take_44 : decode cX4_take 44 = .ok (.putfield 15, 3) := by decide +kernel
theorem dX4_take_47 : decode cX4_take 47 = .ok (.iinc 4 1, 3) := by decide +kernel
theorem dX4_take_50 : decode cX4_take 50 = .ok (.goto (-47), 3) := by decide +kernel
theorem dX4_take_53 : decode cX4_take 53 = .ok (.return_, 1) := by decide +kernel
theorem dX5_init_0 : decode cX5_init 0 = .ok (.aload_n 0, 1) := by decide +kernel
theorem dX5_init_1 : decode cX5_init 1 = .ok (.invokespecial 3, 3) := by decide +kernel
theorem dX5_init_4 : decode cX5_init 4 = .ok (.aload_n 0, 1) := by decide +kernel
theorem dX5_init_5 : decode cX5_init 5 = .ok (.aload_n 1, 1) := by decide +kernel
theorem dX5_init_6 : decode cX5_init 6 = .ok (.putfield 9, 3) := by decide +kernel
theorem dX5_init_9 : decode cX5_init 9 = .ok (.aload_n 0, 1) := by decide +kernel
theorem dX5_init_10 : decode cX5_init 10 = .ok (.aload_n 2, 1) := by decide +kernel
theorem dX5_init_11 : decode cX5_init 11 = .ok (.putfield 15, 3) := by decide +kernel
theorem dX5_init_14 : decode cX5_init 14 = .ok (.return_, 1) := by decide +kernel
set_option maxRecDepth 20000 in
theorem ggX5_readTown_X5_readAhead : GoodIn wsX5_readTown wsX5_readAhead := goodIn_r _ [7, 1, 8, 9, 10, 11, 2, 12, 13, 14, 6, 15, 16, 17, 18, 138, 139, 140, 141, 142, 143, 144, 145] (by decide +kernel) (by decide +kernel)
set_option maxRecDepth 20000 in
theorem gX5_readTown_X5_readAhead : GoodIn wsX5_readTown (wsV RX5 23 RX5 yX5_readAhead wsX5_readAhead) := goodIn_app (goodIn_of _ (by decide +kernel)) ggX5_readTown_X5_readAhead
set_option maxRecDepth 20000 in
theorem ggX5_readTown_X5_lawNamed : GoodIn wsX5_readTown wsX5_lawNamed := goodIn_r _ [22, 23, 24, 25, 6, 26, 2, 1, 11, 8, 10, 27, 28, 29, 30, 31, 32, 33, 34, 35, 36, 37, 38, 39, 40, 41, 42, 43, 44, 45, 46, 47, 48, 49, 50, 51, 52, 53, 54, 55, 56, 57, 58, 59, 60, 61, 62, 63, 64, 65, 66, 67, 68, 69, 70, 71, 72, 73, 74, 75, 138, 139, 140, 141, 142, 143, 144, 145] (by decide +kernel) (by decide +kernel)
set_option maxRecDepth 20000 in
theorem gX5_readTown_X5_lawNamed : GoodIn wsX5_readTown (wsV RX5 29 RX5 yX5_lawNamed wsX5_lawNamed) := goodIn_app (goodIn_of _ (by decide +kernel)) ggX5_readTown_X5_lawNamed
set_option maxRecDepth 20000 in
theorem ggX5_readTown_X5_readLaw : GoodIn wsX5_readTown wsX5_readLaw := goodIn_r _ [79, 80, 81, 3, 4, 5, 6, 7, 1, 8, 9, 10, 11, 2, 12, 13, 14, 15, 16, 17, 18, 82, 83, 84, 85, 86, 87, 88, 89, 90, 91, 92, 138, 139, 140, 141, 142, 143, 146, 147, 148, 149, 150, 151, 152, 153, 154, 155, 156, 157, 144, 145] (by decide +kernel) (by decide +kernel)
set_option maxRecDepth 20000 in
theorem gX5_readTown_X5_readLaw : GoodIn wsX5_readTown (wsV RX5 33 RX5 yX5_readLaw wsX5_readLaw) := goodIn_app (goodIn_of _ (by decide +kernel)) ggX5_readTown_X5_readLaw
set_option maxRecDepth 20000 in
theorem ggX5_readTown_X5_isName : GoodIn wsX5_readTown wsX5_isName := goodIn_r _ [26, 2, 1, 11, 8, 10, 27, 28, 29, 30, 31, 32, 33, 34, 35, 36, 37, 38, 39, 40, 41, 42, 43, 44, 45, 46, 47, 48, 49, 50, 51, 52, 53, 54, 55, 56, 57, 58, 59, 60, 61, 62, 63, 64, 65, 66, 67, 68, 69, 70, 71, 72, 73, 74, 75, 138, 139, 140, 141, 142, 143, 144, 145] (by decide +kernel) (by decide +kernel)
set_option maxRecDepth 20000 in
theorem gX5_readTown_X5_isName : GoodIn wsX5_readTown (wsV RX5 39 RX5 yX5_isName wsX5_isName) := goodIn_app (goodIn_of _ (by decide +kernel)) ggX5_readTown_X5_isName
set_option maxRecDepth 20000 in
theorem ggX5_readTown_X5_readPair : GoodIn wsX5_readTown wsX5_readPair := goodIn_r _ [96, 80, 97, 2, 12, 3, 4, 5, 6, 7, 1, 8, 9, 10, 11, 13, 14, 15, 16, 17, 18, 85, 86, 87, 88, 23, 24, 25, 26, 27, 28, 29, 30, 31, 32, 33, 34, 35, 36, 37, 38, 39, 40, 41, 42, 43, 44, 45, 46, 47, 48, 49, 50, 51, 52, 53, 54, 55, 56, 57, 58, 59, 60, 61, 62, 63, 64, 65, 66, 67, 68, 69, 70, 71, 72, 73, 74, 75, 89, 90, 91, 92, 98, 99, 100, 101, 102, 103, 104, 105, 106, 107, 108, 109, 110, 111, 112, 113, 114, 115, 116, 117, 138, 139, 140, 141, 142, 143, 146, 147, 148, 149, 150, 151, 152, 153, 154, 155, 156, 157, 144, 145] (by decide +kernel) (by decide +kernel)
set_option maxRecDepth 20000 in
theorem gX5_readTown_X5_readPair : GoodIn wsX5_readTown (wsV RX5 43 RX5 yX5_readPair wsX5_readPair) := goodIn_app (goodIn_of _ (by decide +kernel)) ggX5_readTown_X5_readPair
set_option maxRecDepth 20000 in
theorem ggX5_readTown_X5_readPerson : GoodIn wsX5_readTown wsX5_readPerson := goodIn_r _ [121, 80, 97, 122, 123, 124, 6, 125, 23, 24, 25, 26, 2, 1, 11, 8, 10, 27, 28, 29, 30, 31, 32, 33, 34, 35, 36, 37, 38, 39, 40, 41, 42, 43, 44, 45, 46, 47, 48, 49, 50, 51, 52, 53, 54, 55, 56, 57, 58, 59, 60, 61, 62, 63, 64, 65, 66, 67, 68, 69, 70, 71, 72, 73, 74, 75, 3, 4, 5, 7, 9, 12, 13, 14, 15, 16, 17, 18, 126, 127, 128, 129, 85, 86, 87, 88, 89, 90, 91, 92, 130, 131, 132, 101, 133, 117, 134, 135, 136, 137, 109, 110, 111, 112, 103, 104, 138, 139, 140, 141, 142, 143, 146, 147, 148, 149, 150, 151, 152, 153, 154, 155, 156, 157, 144, 145] (by decide +kernel) (by decide +kernel)
set_option maxRecDepth 20000 in
theorem gX5_readTown_X5_readPerson : GoodIn wsX5_readTown (wsV RX5 47 RX5 yX5_readPerson wsX5_readPerson) := goodIn_app (goodIn_of _ (by decide +kernel)) ggX5_readTown_X5_readPerson
theorem dX5_readTown_0 : decode cX5_readTown 0 = .ok (.aload_n 0, 1) := by decide +kernel
theorem dX5_readTown_1 : decode cX5_readTown 1 = .ok (.iconst 0, 1) := by decide +kernel
theorem dX5_readTown_2 : decode cX5_readTown 2 = .ok (.putfield 19, 3) := by decide +kernel
theorem dX5_readTown_5 : decode cX5_readTown 5 = .ok (.aload_n 0, 1) := by decide +kernel
theorem dX5_readTown_6 : decode cX5_readTown 6 = .ok (.invokevirtual 23, 3) := by decide +kernel
theorem dX5_readTown_9 : decode cX5_readTown 9 = .ok (.iconst 1, 1) := by decide +kernel
theorem dX5_readTown_10 : decode cX5_readTown 10 = .ok (.istore_n 1, 1) := by decide +kernel
theorem dX5_readTown_11 : decode cX5_readTown 11 = .ok (.iconst 0, 1) := by decide +kernel
theorem dX5_readTown_12 : decode cX5_readTown 12 = .ok (.istore_n 2, 1) := by decide +kernel
theorem dX5_readTown_13 : decode cX5_readTown 13 = .ok (.iload_n 2, 1) := by decide +kernel
theorem dX5_readTown_14 : decode cX5_readTown 14 = .ok (.sipush 200, 3) := by decide +kernel
theorem dX5_readTown_17 : decode cX5_readTown 17 = .ok (.if_icmp .ge 61, 3) := by decide +kernel
theorem dX5_readTown_20 : decode cX5_readTown 20 = .ok (.iload_n 1, 1) := by decide +kernel
theorem dX5_readTown_21 : decode cX5_readTown 21 = .ok (.ifCond .eq 57, 3) := by decide +kernel
theorem dX5_readTown_24 : decode cX5_readTown 24 = .ok (.aload_n 0, 1) := by decide +kernel
theorem dX5_readTown_25 : decode cX5_readTown 25 = .ok (.getfield 26, 3) := by decide +kernel
theorem dX5_readTown_28 : decode cX5_readTown 28 = .ok (.ifCond .eq 50, 3) := by decide +kernel
theorem dX5_readTown_31 : decode cX5_readTown 31 = .ok (.aload_n 0, 1) := by decide +kernel
theorem dX5_readTown_32 : decode cX5_readTown 32 = .ok (.invokevirtual 29, 3) := by decide +kernel
theorem dX5_readTown_35 : decode cX5_readTown 35 = .ok (.istore_n 3, 1) := by decide +kernel
theorem dX5_readTown_36 : decode cX5_readTown 36 = .ok (.iload_n 3, 1) := by decide +kernel
theorem dX5_readTown_37 : decode cX5_readTown 37 = .ok (.iconst (-1), 1) := by decide +kernel
theorem dX5_readTown_38 : decode cX5_readTown 38 = .ok (.if_icmp .eq 12, 3) := by decide +kernel
theorem dX5_readTown_41 : decode cX5_readTown 41 = .ok (.aload_n 0, 1) := by decide +kernel
theorem dX5_readTown_42 : decode cX5_readTown 42 = .ok (.iload_n 3, 1) := by decide +kernel
theorem dX5_readTown_43 : decode cX5_readTown 43 = .ok (.invokevirtual 33, 3) := by decide +kernel
theorem dX5_readTown_46 : decode cX5_readTown 46 = .ok (.istore_n 1, 1) := by decide +kernel
theorem dX5_readTown_47 : decode cX5_readTown 47 = .ok (.goto 25, 3) := by decide +kernel
theorem dX5_readTown_50 : decode cX5_readTown 50 = .ok (.aload_n 0, 1) := by decide +kernel
theorem dX5_readTown_51 : decode cX5_readTown 51 = .ok (.ldc 37, 2) := by decide +kernel
theorem dX5_readTown_53 : decode cX5_readTown 53 = .ok (.invokevirtual 39, 3) := by decide +kernel
theorem dX5_readTown_56 : decode cX5_readTown 56 = .ok (.ifCond .eq 11, 3) := by decide +kernel
theorem dX5_readTown_59 : decode cX5_readTown 59 = .ok (.aload_n 0, 1) := by decide +kernel
theorem dX5_readTown_60 : decode cX5_readTown 60 = .ok (.invokevirtual 43, 3) := by decide +kernel
theorem dX5_readTown_63 : decode cX5_readTown 63 = .ok (.istore_n 1, 1) := by decide +kernel
theorem dX5_readTown_64 : decode cX5_readTown 64 = .ok (.goto 8, 3) := by decide +kernel
theorem dX5_readTown_67 : decode cX5_readTown 67 = .ok (.aload_n 0, 1) := by decide +kernel
theorem dX5_readTown_68 : decode cX5_readTown 68 = .ok (.invokevirtual 47, 3) := by decide +kernel
theorem dX5_readTown_71 : decode cX5_readTown 71 = .ok (.istore_n 1, 1) := by decide +kernel
theorem dX5_readTown_72 : decode cX5_readTown 72 = .ok (.iinc 2 1, 3) := by decide +kernel
theorem dX5_readTown_75 : decode cX5_readTown 75 = .ok (.goto (-62), 3) := by decide +kernel
theorem dX5_readTown_78 : decode cX5_readTown 78 = .ok (.iload_n 1, 1) := by decide +kernel
theorem dX5_readTown_79 : decode cX5_readTown 79 = .ok (.ifCond .eq 14, 3) := by decide +kernel
theorem dX5_readTown_82 : decode cX5_readTown 82 = .ok (.aload_n 0, 1) := by decide +kernel
theorem dX5_readTown_83 : decode cX5_readTown 83 = .ok (.getfield 26, 3) := by decide +kernel
theorem dX5_readTown_86 : decode cX5_readTown 86 = .ok (.ifCond .ne 7, 3) := by decide +kernel
theorem dX5_readTown_89 : decode cX5_readTown 89 = .ok (.iconst 1, 1) := by decide +kernel
theorem dX5_readTown_90 : decode cX5_readTown 90 = .ok (.goto 4, 3) := by decide +kernel
theorem dX5_readTown_93 : decode cX5_readTown 93 = .ok (.iconst 0, 1) := by decide +kernel
theorem dX5_readTown_94 : decode cX5_readTown 94 = .ok (.ireturn, 1) := by decide +kernel
set_option maxRecDepth 20000 in
theorem ggX5_readPerson_X5_kindNamed : GoodIn wsX5_readPerson wsX5_kindNamed := goodIn_r _ [7, 8, 9, 10, 6, 11, 12, 13, 14, 15, 16, 17, 18, 19, 20, 21, 22, 23, 24, 25, 26, 27, 28, 29, 30, 31, 32, 33, 34, 35, 36, 37, 38, 39, 40, 41, 42, 43, 44, 45, 46, 47, 48, 49, 50, 51, 52, 53, 54, 55, 56, 57, 58, 59, 60, 61, 62, 63, 64, 65, 106, 107, 108, 109, 110, 111, 124, 125] (by decide +kernel) (by decide +kernel)
set_option maxRecDepth 20000 in
theorem gX5_readPerson_X5_kindNamed : GoodIn wsX5_readPerson (wsV RX5 50 RX5 yX5_kindNamed wsX5_kindNamed) := goodIn_app (goodIn_of _ (by decide +kernel)) ggX5_readPerson_X5_kindNamed
set_option maxRecDepth 20000 in
theorem ggX5_readPerson_X5_readAhead : GoodIn wsX5_readPerson wsX5_readAhead := goodIn_r _ [69, 13, 15, 70, 16, 14, 12, 71, 72, 73, 6, 74, 75, 76, 77, 106, 107, 108, 109, 110, 111, 124, 125] (by decide +kernel) (by decide +kernel)
set_option maxRecDepth 20000 in
theorem gX5_readPerson_X5_readAhead : GoodIn wsX5_readPerson (wsV RX5 23 RX5 yX5_readAhead wsX5_readAhead) := goodIn_app (goodIn_of _ (by decide +kernel)) ggX5_readPerson_X5_readAhead
set_option maxRecDepth 20000 in
theorem ggX5_readPerson_X5_readOption : GoodIn wsX5_readPerson wsX5_readOption := goodIn_r _ [81, 8, 9, 10, 6, 11, 12, 13, 14, 15, 16, 17, 18, 19, 20, 21, 22, 23, 24, 25, 26, 27, 28, 29, 30, 31, 32, 33, 34, 35, 36, 37, 38, 39, 40, 41, 42, 43, 44, 45, 46, 47, 48, 49, 50, 51, 52, 53, 54, 55, 56, 57, 58, 59, 60, 61, 62, 63, 64, 65, 66, 67, 68, 69, 70, 71, 72, 73, 74, 75, 76, 77, 82, 83, 84, 85, 106, 107, 108, 109, 110, 111, 124, 125] (by decide +kernel) (by decide +kernel)
set_option maxRecDepth 20000 in
theorem gX5_readPerson_X5_readOption : GoodIn wsX5_readPerson (wsV RX5 60 RX5 yX5_readOption wsX5_readOption) := goodIn_app (goodIn_of _ (by decide +kernel)) ggX5_readPerson_X5_readOption
set_option maxRecDepth 20000 in
theorem ggX5_readPerson_X5_readSemicolon : GoodIn wsX5_readPerson wsX5_readSemicolon := goodIn_r _ [89, 12, 15, 16, 14, 66, 67, 68, 6, 69, 13, 70, 71, 72, 73, 74, 75, 76, 77, 106, 107, 108, 109, 110, 111, 124, 125] (by decide +kernel) (by decide +kernel)
set_option maxRecDepth 20000 in
theorem gX5_readPerson_X5_readSemicolon : GoodIn wsX5_readPerson (wsV RX5 68 RX5 yX5_readSemicolon wsX5_readSemicolon) := goodIn_app (goodIn_of _ (by decide +kernel)) ggX5_readPerson_X5_readSemicolon
set_option maxRecDepth 20000 in
theorem ggX5_readPerson_X6_add : GoodIn wsX5_readPerson wsX6_add := goodIn_r _ [94, 95, 96, 97, 98, 99, 100, 101, 102, 93, 103, 104, 105, 112, 113, 114, 115, 116, 117, 118, 119, 120, 121, 122, 123] (by decide +kernel) (by decide +kernel)
set_option maxRecDepth 20000 in
theorem gX5_readPerson_X6_add : GoodIn wsX5_readPerson (wsV RX5 71 RX6 yX6_add wsX6_add) := goodIn_app (goodIn_of _ (by decide +kernel)) ggX5_readPerson_X6_add
theorem dX5_readPerson_0 : decode cX5_readPerson 0 = .ok (.aload_n 0, 1) := by decide +kernel
theorem dX5_readPerson_1 : decode cX5_readPerson 1 = .ok (.invokevirtual 50, 3) := by decide +kernel
theorem dX5_readPerson_4 : decode cX5_readPerson 4 = .ok (.istore_n 1, 1) := by decide +kernel
theorem dX5_readPerson_5 : decode cX5_readPerson 5 = .ok (.iload_n 1, 1) := by decide +kernel
theorem dX5_readPerson_6 : decode cX5_readPerson 6 = .ok (.iconst (-1), 1) := by decide +kernel
theorem dX5_readPerson_7 : decode cX5_readPerson 7 = .ok (.if_icmp .eq 15, 3) := by decide +kernel
theorem dX5_readPerson_10 : decode cX5_readPerson 10 = .ok (.aload_n 0, 1) := by decide +kernel
theorem dX5_readPerson_11 : decode cX5_readPerson 11 = .ok (.getfield 15, 3) := by decide +kernel
theorem dX5_readPerson_14 : decode cX5_readPerson 14 = .ok (.getfield 53, 3) := by decide +kernel
theorem dX5_readPerson_17 : decode cX5_readPerson 17 = .ok (.bipush 8, 2) := by decide +kernel
theorem dX5_readPerson_19 : decode cX5_readPerson 19 = .ok (.if_icmp .lt 5, 3) := by decide +kernel
theorem dX5_readPerson_22 : decode cX5_readPerson 22 = .ok (.iconst 0, 1) := by decide +kernel
theorem dX5_readPerson_23 : decode cX5_readPerson 23 = .ok (.ireturn, 1) := by decide +kernel
theorem dX5_readPerson_24 : decode cX5_readPerson 24 = .ok (.aload_n 0, 1) := by decide +kernel
theorem dX5_readPerson_25 : decode cX5_readPerson 25 = .ok (.invokevirtual 23, 3) := by decide +kernel
theorem dX5_readPerson_28 : decode cX5_readPerson 28 = .ok (.aload_n 0, 1) := by decide +kernel
theorem dX5_readPerson_29 : decode cX5_readPerson 29 = .ok (.ldc 58, 2) := by decide +kernel
theorem dX5_readPerson_31 : decode cX5_readPerson 31 = .ok (.bipush 99, 2) := by decide +kernel
theorem dX5_readPerson_33 : decode cX5_readPerson 33 = .ok (.iconst 0, 1) := by decide +kernel
theorem dX5_readPerson_34 : decode cX5_readPerson 34 = .ok (.invokevirtual 60, 3) := by decide +kernel
theorem dX5_readPerson_37 : decode cX5_readPerson 37 = .ok (.istore_n 2, 1) := by decide +kernel
theorem dX5_readPerson_38 : decode cX5_readPerson 38 = .ok (.iload_n 2, 1) := by decide +kernel
theorem dX5_readPerson_39 : decode cX5_readPerson 39 = .ok (.iconst (-1), 1) := by decide +kernel
theorem dX5_readPerson_40 : decode cX5_readPerson 40 = .ok (.if_icmp .ne 5, 3) := by decide +kernel
theorem dX5_readPerson_43 : decode cX5_readPerson 43 = .ok (.iconst 0, 1) := by decide +kernel
theorem dX5_readPerson_44 : decode cX5_readPerson 44 = .ok (.ireturn, 1) := by decide +kernel
theorem dX5_readPerson_45 : decode cX5_readPerson 45 = .ok (.aload_n 0, 1) := by decide +kernel
theorem dX5_readPerson_46 : decode cX5_readPerson 46 = .ok (.ldc 64, 2) := by decide +kernel
theorem dX5_readPerson_48 : decode cX5_readPerson 48 = .ok (.bipush 99, 2) := by decide +kernel
theorem dX5_readPerson_50 : decode cX5_readPerson 50 = .ok (.iconst 0, 1) := by decide +kernel
theorem dX5_readPerson_51 : decode cX5_readPerson 51 = .ok (.invokevirtual 60, 3) := by decide +kernel
theorem dX5_readPerson_54 : decode cX5_readPerson 54 = .ok (.istore_n 3, 1) := by decide +kernel
theorem dX5_readPerson_55 : decode cX5_readPerson 55 = .ok (.iload_n 3, 1) := by decide +kernel
theorem dX5_readPerson_56 : decode cX5_readPerson 56 = .ok (.iconst (-1), 1) := by decide +kernel
theorem dX5_readPerson_57 : decode cX5_readPerson 57 = .ok (.if_icmp .ne 5, 3) := by decide +kernel
theorem dX5_readPerson_60 : decode cX5_readPerson 60 = .ok (.iconst 0, 1) := by decide +kernel
theorem dX5_readPerson_61 : decode cX5_readPerson 61 = .ok (.ireturn, 1) := by decide +kernel
theorem dX5_readPerson_62 : decode cX5_readPerson 62 = .ok (.aload_n 0, 1) := by decide +kernel
theorem dX5_readPerson_63 : decode cX5_readPerson 63 = .ok (.ldc 66, 2) := by decide +kernel
theorem dX5_readPerson_65 : decode cX5_readPerson 65 = .ok (.bipush 9, 2) := by decide +kernel
theorem dX5_readPerson_67 : decode cX5_readPerson 67 = .ok (.iconst 3, 1) := by decide +kernel
theorem dX5_readPerson_68 : decode cX5_readPerson 68 = .ok (.invokevirtual 60, 3) := by decide +kernel
theorem dX5_readPerson_71 : decode cX5_readPerson 71 = .ok (.istore 4, 2) := by decide +kernel
theorem dX5_readPerson_73 : decode cX5_readPerson 73 = .ok (.iload 4, 2) := by decide +kernel
theorem dX5_readPerson_75 : decode cX5_readPerson 75 = .ok (.iconst (-1), 1) := by decide +kernel
theorem dX5_readPerson_76 : decode cX5_readPerson 76 = .ok (.if_icmp .eq 10, 3) := by decide +kernel
theorem dX5_readPerson_79 : decode cX5_readPerson 79 = .ok (.aload_n 0, 1) := by decide +kernel
theorem dX5_readPerson_80 : decode cX5_readPerson 80 = .ok (.invokevirtual 68, 3) := by decide +kernel
theorem dX5_readPerson_83 : decode cX5_readPerson 83 = .ok (.ifCond .ne 5, 3) := by decide +kernel
theorem dX5_readPerson_86 : decode cX5_readPerson 86 = .ok (.iconst 0, 1) := by decide +kernel
theorem dX5_readPerson_87 : decode cX5_readPerson 87 = .ok (.ireturn, 1) := by decide +kernel
theorem dX5_readPerson_88 : decode cX5_readPerson 88 = .ok (.aload_n 0, 1) := by decide +kernel
theorem dX5_readPerson_89 : decode cX5_readPerson 89 = .ok (.getfield 15, 3) := by decide +kernel
theorem dX5_readPerson_92 : decode cX5_readPerson 92 = .ok (.iload_n 1, 1) := by decide +kernel
theorem dX5_readPerson_93 : decode cX5_readPerson 93 = .ok (.iload_n 2, 1) := by decide +kernel
theorem dX5_readPerson_94 : decode cX5_readPerson 94 = .ok (.iload_n 3, 1) := by decide +kernel
theorem dX5_readPerson_95 : decode cX5_readPerson 95 = .ok (.iload 4, 2) := by decide +kernel
theorem dX5_readPerson_97 : decode cX5_readPerson 97 = .ok (.invokevirtual 71, 3) := by decide +kernel
theorem dX5_readPerson_100 : decode cX5_readPerson 100 = .ok (.iconst 1, 1) := by decide +kernel
theorem dX5_readPerson_101 : decode cX5_readPerson 101 = .ok (.ireturn, 1) := by decide +kernel
set_option maxRecDepth 20000 in
theorem ggX5_readLaw_X5_readAhead : GoodIn wsX5_readLaw wsX5_readAhead := goodIn_r _ [7, 8, 9, 10, 11, 12, 13, 14, 15, 16, 6, 17, 18, 19, 20, 32, 33, 34, 35, 36, 37, 50, 51] (by decide +kernel) (by decide +kernel)
set_option maxRecDepth 20000 in
theorem gX5_readLaw_X5_readAhead : GoodIn wsX5_readLaw (wsV RX5 23 RX5 yX5_readAhead wsX5_readAhead) := goodIn_app (goodIn_of _ (by decide +kernel)) ggX5_readLaw_X5_readAhead
set_option maxRecDepth 20000 in
theorem ggX5_readLaw_X8_mostOfLaw : GoodIn wsX5_readLaw wsX8_mostOfLaw := goodIn_r _ [23] (by decide +kernel) (by decide +kernel)
set_option maxRecDepth 20000 in
theorem gX5_readLaw_X8_mostOfLaw_n75 : GoodIn wsX5_readLaw (wsX8_mostOfLaw) := ggX5_readLaw_X8_mostOfLaw
set_option maxRecDepth 20000 in
theorem ggX5_readLaw_X5_readNumber : GoodIn wsX5_readLaw wsX5_readNumber := goodIn_r _ [27, 13, 14, 3, 4, 5, 6, 7, 8, 9, 10, 11, 12, 15, 16, 17, 18, 19, 20, 32, 33, 34, 35, 36, 37, 50, 51] (by decide +kernel) (by decide +kernel)
set_option maxRecDepth 20000 in
theorem gX5_readLaw_X5_readNumber : GoodIn wsX5_readLaw (wsV RX5 79 RX5 yX5_readNumber wsX5_readNumber) := goodIn_app (goodIn_of _ (by decide +kernel)) ggX5_readLaw_X5_readNumber
set_option maxRecDepth 20000 in
theorem ggX5_readLaw_X5_readSemicolon : GoodIn wsX5_readLaw wsX5_readSemicolon := goodIn_r _ [31, 13, 9, 11, 12, 3, 4, 5, 6, 7, 8, 10, 14, 15, 16, 17, 18, 19, 20, 32, 33, 34, 35, 36, 37, 50, 51] (by decide +kernel) (by decide +kernel)
set_option maxRecDepth 20000 in
theorem gX5_readLaw_X5_readSemicolon : GoodIn wsX5_readLaw (wsV RX5 68 RX5 yX5_readSemicolon wsX5_readSemicolon) := goodIn_app (goodIn_of _ (by decide +kernel)) ggX5_readLaw_X5_readSemicolon
theorem dX5_readLaw_0 : decode cX5_readLaw 0 = .ok (.aload_n 0, 1) := by decide +kernel
theorem dX5_readLaw_1 : decode cX5_readLaw 1 = .ok (.invokevirtual 23, 3) := by decide +kernel
theorem dX5_readLaw_4 : decode cX5_readLaw 4 = .ok (.aload_n 0, 1) := by decide +kernel
theorem dX5_readLaw_5 : decode cX5_readLaw 5 = .ok (.iload_n 1, 1) := by decide +kernel
theorem dX5_readLaw_6 : decode cX5_readLaw 6 = .ok (.invokestatic 75, 3) := by decide +kernel
theorem dX5_readLaw_9 : decode cX5_readLaw 9 = .ok (.invokevirtual 79, 3) := by decide +kernel
theorem dX5_readLaw_12 : decode cX5_readLaw 12 = .ok (.istore_n 2, 1) := by decide +kernel
theorem dX5_readLaw_13 : decode cX5_readLaw 13 = .ok (.iload_n 2, 1) := by decide +kernel
theorem dX5_readLaw_14 : decode cX5_readLaw 14 = .ok (.iconst (-1), 1) := by decide +kernel
theorem dX5_readLaw_15 : decode cX5_readLaw 15 = .ok (.if_icmp .eq 10, 3) := by decide +kernel
theorem dX5_readLaw_18 : decode cX5_readLaw 18 = .ok (.aload_n 0, 1) := by decide +kernel
theorem dX5_readLaw_19 : decode cX5_readLaw 19 = .ok (.invokevirtual 68, 3) := by decide +kernel
theorem dX5_readLaw_22 : decode cX5_readLaw 22 = .ok (.ifCond .ne 5, 3) := by decide +kernel
theorem dX5_readLaw_25 : decode cX5_readLaw 25 = .ok (.iconst 0, 1) := by decide +kernel
theorem dX5_readLaw_26 : decode cX5_readLaw 26 = .ok (.ireturn, 1) := by decide +kernel
theorem dX5_readLaw_27 : decode cX5_readLaw 27 = .ok (.aload_n 0, 1) := by decide +kernel
theorem dX5_readLaw_28 : decode cX5_readLaw 28 = .ok (.getfield 15, 3) := by decide +kernel
theorem dX5_readLaw_31 : decode cX5_readLaw 31 = .ok (.getfield 82, 3) := by decide +kernel
theorem dX5_readLaw_34 : decode cX5_readLaw 34 = .ok (.iload_n 1, 1) := by decide +kernel
theorem dX5_readLaw_35 : decode cX5_readLaw 35 = .ok (.iload_n 2, 1) := by decide +kernel
theorem dX5_readLaw_36 : decode cX5_readLaw 36 = .ok (.iastore, 1) := by decide +kernel
theorem dX5_readLaw_37 : decode cX5_readLaw 37 = .ok (.iconst 1, 1) := by decide +kernel
theorem dX5_readLaw_38 : decode cX5_readLaw 38 = .ok (.ireturn, 1) := by decide +kernel
set_option maxRecDepth 20000 in
theorem ggX5_readPair_X5_readAhead : GoodIn wsX5_readPair wsX5_readAhead := goodIn_r _ [9, 10, 11, 12, 13, 14, 3, 4, 15, 16, 8, 17, 18, 19, 20, 102, 103, 104, 105, 106, 107, 120, 121] (by decide +kernel) (by decide +kernel)
set_option maxRecDepth 20000 in
theorem gX5_readPair_X5_readAhead : GoodIn wsX5_readPair (wsV RX5 23 RX5 yX5_readAhead wsX5_readAhead) := goodIn_app (goodIn_of _ (by decide +kernel)) ggX5_readPair_X5_readAhead
set_option maxRecDepth 20000 in
theorem ggX5_readPair_X5_readNumber : GoodIn wsX5_readPair wsX5_readNumber := goodIn_r _ [24, 3, 4, 5, 6, 7, 8, 9, 10, 11, 12, 13, 14, 15, 16, 17, 18, 19, 20, 102, 103, 104, 105, 106, 107, 120, 121] (by decide +kernel) (by decide +kernel)
set_option maxRecDepth 20000 in
theorem gX5_readPair_X5_readNumber : GoodIn wsX5_readPair (wsV RX5 79 RX5 yX5_readNumber wsX5_readNumber) := goodIn_app (goodIn_of _ (by decide +kernel)) ggX5_readPair_X5_readNumber
set_option maxRecDepth 20000 in
theorem ggX5_readPair_X5_isName : GoodIn wsX5_readPair wsX5_isName := goodIn_r _ [28, 3, 10, 14, 11, 13, 29, 30, 31, 32, 33, 34, 35, 36, 37, 38, 39, 40, 41, 42, 43, 44, 45, 46, 47, 48, 49, 50, 51, 52, 53, 54, 55, 56, 57, 58, 59, 60, 61, 62, 63, 64, 65, 66, 67, 68, 69, 70, 71, 72, 73, 74, 75, 76, 77, 102, 103, 104, 105, 106, 107, 120, 121] (by decide +kernel) (by decide +kernel)
set_option maxRecDepth 20000 in
theorem gX5_readPair_X5_isName : GoodIn wsX5_readPair (wsV RX5 39 RX5 yX5_isName wsX5_isName) := goodIn_app (goodIn_of _ (by decide +kernel)) ggX5_readPair_X5_isName
set_option maxRecDepth 20000 in
theorem ggX5_readPair_X5_readSemicolon : GoodIn wsX5_readPair wsX5_readSemicolon := goodIn_r _ [81, 3, 11, 13, 14, 5, 6, 7, 8, 9, 10, 12, 4, 15, 16, 17, 18, 19, 20, 102, 103, 104, 105, 106, 107, 120, 121] (by decide +kernel) (by decide +kernel)
set_option maxRecDepth 20000 in
theorem gX5_readPair_X5_readSemicolon : GoodIn wsX5_readPair (wsV RX5 68 RX5 yX5_readSemicolon wsX5_readSemicolon) := goodIn_app (goodIn_of _ (by decide +kernel)) ggX5_readPair_X5_readSemicolon
set_option maxRecDepth 20000 in
theorem ggX5_readPair_X6_join : GoodIn wsX5_readPair wsX6_join := goodIn_r _ [86, 87, 88, 89, 90, 91, 85, 92, 93, 94, 95, 96, 97, 98, 99, 100, 101, 108, 109, 110, 111, 112, 113, 114, 115, 116, 117, 118, 119] (by decide +kernel) (by decide +kernel)
set_option maxRecDepth 20000 in
theorem gX5_readPair_X6_join : GoodIn wsX5_readPair (wsV RX5 91 RX6 yX6_join wsX6_join) := goodIn_app (goodIn_of _ (by decide +kernel)) ggX5_readPair_X6_join
theorem dX5_readPair_0 : decode cX5_readPair 0 = .ok (.aload_n 0, 1) := by decide +kernel
theorem dX5_readPair_1 : decode cX5_readPair 1 = .ok (.invokevirtual 23, 3) := by decide +kernel
theorem dX5_readPair_4 : decode cX5_readPair 4 = .ok (.aload_n 0, 1) := by decide +kernel
theorem dX5_readPair_5 : decode cX5_readPair 5 = .ok (.aload_n 0, 1) := by decide +kernel
theorem dX5_readPair_6 : decode cX5_readPair 6 = .ok (.getfield 15, 3) := by decide +kernel
theorem dX5_readPair_9 : decode cX5_readPair 9 = .ok (.getfield 53, 3) := by decide +kernel
theorem dX5_readPair_12 : decode cX5_readPair 12 = .ok (.iconst 1, 1) := by decide +kernel
theorem dX5_readPair_13 : decode cX5_readPair 13 = .ok (.isub, 1) := by decide +kernel
theorem dX5_readPair_14 : decode cX5_readPair 14 = .ok (.invokevirtual 79, 3) := by decide +kernel
theorem dX5_readPair_17 : decode cX5_readPair 17 = .ok (.istore_n 1, 1) := by decide +kernel
theorem dX5_readPair_18 : decode cX5_readPair 18 = .ok (.iload_n 1, 1) := by decide +kernel
theorem dX5_readPair_19 : decode cX5_readPair 19 = .ok (.iconst (-1), 1) := by decide +kernel
theorem dX5_readPair_20 : decode cX5_readPair 20 = .ok (.if_icmp .eq 12, 3) := by decide +kernel
theorem dX5_readPair_23 : decode cX5_readPair 23 = .ok (.aload_n 0, 1) := by decide +kernel
theorem dX5_readPair_24 : decode cX5_readPair 24 = .ok (.ldc 86, 2) := by decide +kernel
theorem dX5_readPair_26 : decode cX5_readPair 26 = .ok (.invokevirtual 39, 3) := by decide +kernel
theorem dX5_readPair_29 : decode cX5_readPair 29 = .ok (.ifCond .ne 5, 3) := by decide +kernel
theorem dX5_readPair_32 : decode cX5_readPair 32 = .ok (.iconst 0, 1) := by decide +kernel
theorem dX5_readPair_33 : decode cX5_readPair 33 = .ok (.ireturn, 1) := by decide +kernel
theorem dX5_readPair_34 : decode cX5_readPair 34 = .ok (.aload_n 0, 1) := by decide +kernel
theorem dX5_readPair_35 : decode cX5_readPair 35 = .ok (.invokevirtual 23, 3) := by decide +kernel
theorem dX5_readPair_38 : decode cX5_readPair 38 = .ok (.aload_n 0, 1) := by decide +kernel
theorem dX5_readPair_39 : decode cX5_readPair 39 = .ok (.getfield 26, 3) := by decide +kernel
theorem dX5_readPair_42 : decode cX5_readPair 42 = .ok (.iconst 2, 1) := by decide +kernel
theorem dX5_readPair_43 : decode cX5_readPair 43 = .ok (.if_icmp .ne 13, 3) := by decide +kernel
theorem dX5_readPair_46 : decode cX5_readPair 46 = .ok (.aload_n 0, 1) := by decide +kernel
theorem dX5_readPair_47 : decode cX5_readPair 47 = .ok (.getfield 88, 3) := by decide +kernel
theorem dX5_readPair_50 : decode cX5_readPair 50 = .ok (.iload_n 1, 1) := by decide +kernel
theorem dX5_readPair_51 : decode cX5_readPair 51 = .ok (.if_icmp .ne 5, 3) := by decide +kernel
theorem dX5_readPair_54 : decode cX5_readPair 54 = .ok (.iconst 0, 1) := by decide +kernel
theorem dX5_readPair_55 : decode cX5_readPair 55 = .ok (.ireturn, 1) := by decide +kernel
theorem dX5_readPair_56 : decode cX5_readPair 56 = .ok (.aload_n 0, 1) := by decide +kernel
theorem dX5_readPair_57 : decode cX5_readPair 57 = .ok (.aload_n 0, 1) := by decide +kernel
theorem dX5_readPair_58 : decode cX5_readPair 58 = .ok (.getfield 15, 3) := by decide +kernel
theorem dX5_readPair_61 : decode cX5_readPair 61 = .ok (.getfield 53, 3) := by decide +kernel
theorem dX5_readPair_64 : decode cX5_readPair 64 = .ok (.iconst 1, 1) := by decide +kernel
theorem dX5_readPair_65 : decode cX5_readPair 65 = .ok (.isub, 1) := by decide +kernel
theorem dX5_readPair_66 : decode cX5_readPair 66 = .ok (.invokevirtual 79, 3) := by decide +kernel
theorem dX5_readPair_69 : decode cX5_readPair 69 = .ok (.istore_n 2, 1) := by decide +kernel
theorem dX5_readPair_70 : decode cX5_readPair 70 = .ok (.iload_n 2, 1) := by decide +kernel
theorem dX5_readPair_71 : decode cX5_readPair 71 = .ok (.iconst (-1), 1) := by decide +kernel
theorem dX5_readPair_72 : decode cX5_readPair 72 = .ok (.if_icmp .eq 10, 3) := by decide +kernel
theorem dX5_readPair_75 : decode cX5_readPair 75 = .ok (.aload_n 0, 1) := by decide +kernel
theorem dX5_readPair_76 : decode cX5_readPair 76 = .ok (.invokevirtual 68, 3) := by decide +kernel
theorem dX5_readPair_79 : decode cX5_readPair 79 = .ok (.ifCond .ne 5, 3) := by decide +kernel
theorem dX5_readPair_82 : decode cX5_readPair 82 = .ok (.iconst 0, 1) := by decide +kernel
theorem dX5_readPair_83 : decode cX5_readPair 83 = .ok (.ireturn, 1) := by decide +kernel
theorem dX5_readPair_84 : decode cX5_readPair 84 = .ok (.aload_n 0, 1) := by decide +kernel
theorem dX5_readPair_85 : decode cX5_readPair 85 = .ok (.getfield 15, 3) := by decide +kernel
theorem dX5_readPair_88 : decode cX5_readPair 88 = .ok (.iload_n 1, 1) := by decide +kernel
theorem dX5_readPair_89 : decode cX5_readPair 89 = .ok (.iload_n 2, 1) := by decide +kernel
theorem dX5_readPair_90 : decode cX5_readPair 90 = .ok (.invokevirtual 91, 3) := by decide +kernel
theorem dX5_readPair_93 : decode cX5_readPair 93 = .ok (.iconst 1, 1) := by decide +kernel
theorem dX5_readPair_94 : decode cX5_readPair 94 = .ok (.ireturn, 1) := by decide +kernel
set_option maxRecDepth 20000 in
theorem ggX5_readOption_X5_isName : GoodIn wsX5_readOption wsX5_isName := goodIn_r _ [5, 6, 7, 8, 9, 10, 11, 12, 13, 14, 15, 16, 17, 18, 19, 20, 21, 22, 23, 24, 25, 26, 27, 28, 29, 30, 31, 32, 33, 34, 35, 36, 37, 38, 39, 40, 41, 42, 43, 44, 45, 46, 47, 48, 49, 50, 51, 52, 53, 54, 55, 56, 57, 58, 59, 76, 77, 78, 79, 80, 81, 82, 83] (by decide +kernel) (by decide +kernel)
set_option maxRecDepth 20000 in
theorem gX5_readOption_X5_isName : GoodIn wsX5_readOption (wsV RX5 39 RX5 yX5_isName wsX5_isName) := goodIn_app (goodIn_of _ (by decide +kernel)) ggX5_readOption_X5_isName
set_option maxRecDepth 20000 in
theorem ggX5_readOption_X5_readAhead : GoodIn wsX5_readOption wsX5_readAhead := goodIn_r _ [63, 7, 9, 64, 10, 8, 6, 65, 66, 67, 4, 68, 69, 70, 71, 76, 77, 78, 79, 80, 81, 82, 83] (by decide +kernel) (by decide +kernel)
set_option maxRecDepth 20000 in
theorem gX5_readOption_X5_readAhead : GoodIn wsX5_readOption (wsV RX5 23 RX5 yX5_readAhead wsX5_readAhead) := goodIn_app (goodIn_of _ (by decide +kernel)) ggX5_readOption_X5_readAhead
set_option maxRecDepth 20000 in
theorem ggX5_readOption_X5_readNumber : GoodIn wsX5_readOption wsX5_readNumber := goodIn_r _ [75, 6, 65, 60, 61, 62, 4, 63, 7, 9, 64, 10, 8, 66, 67, 68, 69, 70, 71, 76, 77, 78, 79, 80, 81, 82, 83] (by decide +kernel) (by decide +kernel)
set_option maxRecDepth 20000 in
theorem gX5_readOption_X5_readNumber : GoodIn wsX5_readOption (wsV RX5 79 RX5 yX5_readNumber wsX5_readNumber) := goodIn_app (goodIn_of _ (by decide +kernel)) ggX5_readOption_X5_readNumber
theorem dX5_readOption_0 : decode cX5_readOption 0 = .ok (.aload_n 0, 1) := by decide +kernel
theorem dX5_readOption_1 : decode cX5_readOption 1 = .ok (.aload_n 1, 1) := by decide +kernel
theorem dX5_readOption_2 : decode cX5_readOption 2 = .ok (.invokevirtual 39, 3) := by decide +kernel
theorem dX5_readOption_5 : decode cX5_readOption 5 = .ok (.ifCond .ne 5, 3) := by decide +kernel
theorem dX5_readOption_8 : decode cX5_readOption 8 = .ok (.iload_n 3, 1) := by decide +kernel
theorem dX5_readOption_9 : decode cX5_readOption 9 = .ok (.ireturn, 1) := by decide +kernel
theorem dX5_readOption_10 : decode cX5_readOption 10 = .ok (.aload_n 0, 1) := by decide +kernel
theorem dX5_readOption_11 : decode cX5_readOption 11 = .ok (.invokevirtual 23, 3) := by decide +kernel
theorem dX5_readOption_14 : decode cX5_readOption 14 = .ok (.aload_n 0, 1) := by decide +kernel
theorem dX5_readOption_15 : decode cX5_readOption 15 = .ok (.iload_n 2, 1) := by decide +kernel
theorem dX5_readOption_16 : decode cX5_readOption 16 = .ok (.invokevirtual 79, 3) := by decide +kernel
theorem dX5_readOption_19 : decode cX5_readOption 19 = .ok (.ireturn, 1) := by decide +kernel
set_option maxRecDepth 20000 in
theorem ggX5_readNumber_X5_readAhead : GoodIn wsX5_readNumber wsX5_readAhead := goodIn_r _ [7, 8, 9, 10, 11, 12, 1, 2, 13, 14, 6, 15, 16, 17, 18, 19, 20, 21, 22, 23, 24, 25, 26] (by decide +kernel) (by decide +kernel)
set_option maxRecDepth 20000 in
theorem gX5_readNumber_X5_readAhead : GoodIn wsX5_readNumber (wsV RX5 23 RX5 yX5_readAhead wsX5_readAhead) := goodIn_app (goodIn_of _ (by decide +kernel)) ggX5_readNumber_X5_readAhead
theorem dX5_readNumber_0 : decode cX5_readNumber 0 = .ok (.aload_n 0, 1) := by decide +kernel
theorem dX5_readNumber_1 : decode cX5_readNumber 1 = .ok (.getfield 26, 3) := by decide +kernel
theorem dX5_readNumber_4 : decode cX5_readNumber 4 = .ok (.iconst 2, 1) := by decide +kernel
theorem dX5_readNumber_5 : decode cX5_readNumber 5 = .ok (.if_icmp .ne 11, 3) := by decide +kernel
theorem dX5_readNumber_8 : decode cX5_readNumber 8 = .ok (.aload_n 0, 1) := by decide +kernel
theorem dX5_readNumber_9 : decode cX5_readNumber 9 = .ok (.getfield 88, 3) := by decide +kernel
theorem dX5_readNumber_12 : decode cX5_readNumber 12 = .ok (.iload_n 1, 1) := by decide +kernel
theorem dX5_readNumber_13 : decode cX5_readNumber 13 = .ok (.if_icmp .le 5, 3) := by decide +kernel
theorem dX5_readNumber_16 : decode cX5_readNumber 16 = .ok (.iconst (-1), 1) := by decide +kernel
theorem dX5_readNumber_17 : decode cX5_readNumber 17 = .ok (.ireturn, 1) := by decide +kernel
theorem dX5_readNumber_18 : decode cX5_readNumber 18 = .ok (.aload_n 0, 1) := by decide +kernel
theorem dX5_readNumber_19 : decode cX5_readNumber 19 = .ok (.getfield 88, 3) := by decide +kernel
theorem dX5_readNumber_22 : decode cX5_readNumber 22 = .ok (.istore_n 2, 1) := by decide +kernel
theorem dX5_readNumber_23 : decode cX5_readNumber 23 = .ok (.aload_n 0, 1) := by decide +kernel
theorem dX5_readNumber_24 : decode cX5_readNumber 24 = .ok (.invokevirtual 23, 3) := by decide +kernel
theorem dX5_readNumber_27 : decode cX5_readNumber 27 = .ok (.iload_n 2, 1) := by decide +kernel
theorem dX5_readNumber_28 : decode cX5_readNumber 28 = .ok (.ireturn, 1) := by decide +kernel
set_option maxRecDepth 20000 in
theorem ggX5_readSemicolon_X5_readAhead : GoodIn wsX5_readSemicolon wsX5_readAhead := goodIn_r _ [9, 10, 2, 11, 3, 4, 1, 12, 13, 14, 8, 15, 16, 17, 18, 19, 20, 21, 22, 23, 24, 25, 26] (by decide +kernel) (by decide +kernel)
set_option maxRecDepth 20000 in
theorem gX5_readSemicolon_X5_readAhead : GoodIn wsX5_readSemicolon (wsV RX5 23 RX5 yX5_readAhead wsX5_readAhead) := goodIn_app (goodIn_of _ (by decide +kernel)) ggX5_readSemicolon_X5_readAhead
theorem dX5_readSemicolon_0 : decode cX5_readSemicolon 0 = .ok (.aload_n 0, 1) := by decide +kernel
theorem dX5_readSemicolon_1 : decode cX5_readSemicolon 1 = .ok (.getfield 26, 3) := by decide +kernel
theorem dX5_readSemicolon_4 : decode cX5_readSemicolon 4 = .ok (.iconst 3, 1) := by decide +kernel
theorem dX5_readSemicolon_5 : decode cX5_readSemicolon 5 = .ok (.if_icmp .ne 20, 3) := by decide +kernel
theorem dX5_readSemicolon_8 : decode cX5_readSemicolon 8 = .ok (.aload_n 0, 1) := by decide +kernel
theorem dX5_readSemicolon_9 : decode cX5_readSemicolon 9 = .ok (.getfield 9, 3) := by decide +kernel
theorem dX5_readSemicolon_12 : decode cX5_readSemicolon 12 = .ok (.getfield 95, 3) := by decide +kernel
theorem dX5_readSemicolon_15 : decode cX5_readSemicolon 15 = .ok (.aload_n 0, 1) := by decide +kernel
theorem dX5_readSemicolon_16 : decode cX5_readSemicolon 16 = .ok (.getfield 101, 3) := by decide +kernel
theorem dX5_readSemicolon_19 : decode cX5_readSemicolon 19 = .ok (.baload, 1) := by decide +kernel
theorem dX5_readSemicolon_20 : decode cX5_readSemicolon 20 = .ok (.bipush 59, 2) := by decide +kernel
theorem dX5_readSemicolon_22 : decode cX5_readSemicolon 22 = .ok (.if_icmp .eq 5, 3) := by decide +kernel
theorem dX5_readSemicolon_25 : decode cX5_readSemicolon 25 = .ok (.iconst 0, 1) := by decide +kernel
theorem dX5_readSemicolon_26 : decode cX5_readSemicolon 26 = .ok (.ireturn, 1) := by decide +kernel
theorem dX5_readSemicolon_27 : decode cX5_readSemicolon 27 = .ok (.aload_n 0, 1) := by decide +kernel
theorem dX5_readSemicolon_28 : decode cX5_readSemicolon 28 = .ok (.invokevirtual 23, 3) := by decide +kernel
theorem dX5_readSemicolon_31 : decode cX5_readSemicolon 31 = .ok (.iconst 1, 1) := by decide +kernel
theorem dX5_readSemicolon_32 : decode cX5_readSemicolon 32 = .ok (.ireturn, 1) := by decide +kernel
set_option maxRecDepth 20000 in
theorem ggX5_kindNamed_X5_isName : GoodIn wsX5_kindNamed wsX5_isName := goodIn_r _ [5, 6, 7, 8, 9, 10, 11, 12, 13, 14, 15, 16, 17, 18, 19, 20, 21, 22, 23, 24, 25, 26, 27, 28, 29, 30, 31, 32, 33, 34, 35, 36, 37, 38, 39, 40, 41, 42, 43, 44, 45, 46, 47, 48, 49, 50, 51, 52, 53, 54, 55, 56, 57, 58, 59, 60, 61, 62, 63, 64, 65, 66, 67] (by decide +kernel) (by decide +kernel)
set_option maxRecDepth 20000 in
theorem gX5_kindNamed_X5_isName : GoodIn wsX5_kindNamed (wsV RX5 39 RX5 yX5_isName wsX5_isName) := goodIn_app (goodIn_of _ (by decide +kernel)) ggX5_kindNamed_X5_isName
theorem dX5_kindNamed_0 : decode cX5_kindNamed 0 = .ok (.aload_n 0, 1) := by decide +kernel
theorem dX5_kindNamed_1 : decode cX5_kindNamed 1 = .ok (.ldc 104, 2) := by decide +kernel
theorem dX5_kindNamed_3 : decode cX5_kindNamed 3 = .ok (.invokevirtual 39, 3) := by decide +kernel
theorem dX5_kindNamed_6 : decode cX5_kindNamed 6 = .ok (.ifCond .eq 5, 3) := by decide +kernel
theorem dX5_kindNamed_9 : decode cX5_kindNamed 9 = .ok (.iconst 0, 1) := by decide +kernel
theorem dX5_kindNamed_10 : decode cX5_kindNamed 10 = .ok (.ireturn, 1) := by decide +kernel
theorem dX5_kindNamed_11 : decode cX5_kindNamed 11 = .ok (.aload_n 0, 1) := by decide +kernel
theorem dX5_kindNamed_12 : decode cX5_kindNamed 12 = .ok (.ldc 106, 2) := by decide +kernel
theorem dX5_kindNamed_14 : decode cX5_kindNamed 14 = .ok (.invokevirtual 39, 3) := by decide +kernel
theorem dX5_kindNamed_17 : decode cX5_kindNamed 17 = .ok (.ifCond .eq 5, 3) := by decide +kernel
theorem dX5_kindNamed_20 : decode cX5_kindNamed 20 = .ok (.iconst 1, 1) := by decide +kernel
theorem dX5_kindNamed_21 : decode cX5_kindNamed 21 = .ok (.ireturn, 1) := by decide +kernel
theorem dX5_kindNamed_22 : decode cX5_kindNamed 22 = .ok (.aload_n 0, 1) := by decide +kernel
theorem dX5_kindNamed_23 : decode cX5_kindNamed 23 = .ok (.ldc 108, 2) := by decide +kernel
theorem dX5_kindNamed_25 : decode cX5_kindNamed 25 = .ok (.invokevirtual 39, 3) := by decide +kernel
theorem dX5_kindNamed_28 : decode cX5_kindNamed 28 = .ok (.ifCond .eq 5, 3) := by decide +kernel
theorem dX5_kindNamed_31 : decode cX5_kindNamed 31 = .ok (.iconst 2, 1) := by decide +kernel
theorem dX5_kindNamed_32 : decode cX5_kindNamed 32 = .ok (.ireturn, 1) := by decide +kernel
theorem dX5_kindNamed_33 : decode cX5_kindNamed 33 = .ok (.aload_n 0, 1) := by decide +kernel
theorem dX5_kindNamed_34 : decode cX5_kindNamed 34 = .ok (.ldc 110, 2) := by decide +kernel
theorem dX5_kindNamed_36 : decode cX5_kindNamed 36 = .ok (.invokevirtual 39, 3) := by decide +kernel
theorem dX5_kindNamed_39 : decode cX5_kindNamed 39 = .ok (.ifCond .eq 5, 3) := by decide +kernel
theorem dX5_kindNamed_42 : decode cX5_kindNamed 42 = .ok (.iconst 3, 1) := by decide +kernel
theorem dX5_kindNamed_43 : decode cX5_kindNamed 43 = .ok (.ireturn, 1) := by decide +kernel
theorem dX5_kindNamed_44 : decode cX5_kindNamed 44 = .ok (.aload_n 0, 1) := by decide +kernel
theorem dX5_kindNamed_45 : decode cX5_kindNamed 45 = .ok (.ldc 112, 2) := by decide +kernel
theorem dX5_kindNamed_47 : decode cX5_kindNamed 47 = .ok (.invokevirtual 39, 3) := by decide +kernel
theorem dX5_kindNamed_50 : decode cX5_kindNamed 50 = .ok (.ifCond .eq 5, 3) := by decide +kernel
theorem dX5_kindNamed_53 : decode cX5_kindNamed 53 = .ok (.iconst 4, 1) := by decide +kernel
theorem dX5_kindNamed_54 : decode cX5_kindNamed 54 = .ok (.ireturn, 1) := by decide +kernel
theorem dX5_kindNamed_55 : decode cX5_kindNamed 55 = .ok (.aload_n 0, 1) := by decide +kernel
theorem dX5_kindNamed_56 : decode cX5_kindNamed 56 = .ok (.ldc 114, 2) := by decide +kernel
theorem dX5_kindNamed_58 : decode cX5_kindNamed 58 = .ok (.invokevirtual 39, 3) := by decide +kernel
theorem dX5_kindNamed_61 : decode cX5_kindNamed 61 = .ok (.ifCond .eq 7, 3) := by decide +kernel
theorem dX5_kindNamed_64 : decode cX5_kindNamed 64 = .ok (.iconst 5, 1) := by decide +kernel
theorem dX5_kindNamed_65 : decode cX5_kindNamed 65 = .ok (.goto 4, 3) := by decide +kernel
theorem dX5_kindNamed_68 : decode cX5_kindNamed 68 = .ok (.iconst (-1), 1) := by decide +kernel
theorem dX5_kindNamed_69 : decode cX5_kindNamed 69 = .ok (.ireturn, 1) := by decide +kernel
set_option maxRecDepth 20000 in
theorem ggX5_lawNamed_X5_isName : GoodIn wsX5_lawNamed wsX5_isName := goodIn_r _ [5, 6, 7, 8, 9, 10, 11, 12, 13, 14, 15, 16, 17, 18, 19, 20, 21, 22, 23, 24, 25, 26, 27, 28, 29, 30, 31, 32, 33, 34, 35, 36, 37, 38, 39, 40, 41, 42, 43, 44, 45, 46, 47, 48, 49, 50, 51, 52, 53, 54, 55, 56, 57, 58, 59, 60, 61, 62, 63, 64, 65, 66, 67] (by decide +kernel) (by decide +kernel)
set_option maxRecDepth 20000 in
theorem gX5_lawNamed_X5_isName : GoodIn wsX5_lawNamed (wsV RX5 39 RX5 yX5_isName wsX5_isName) := goodIn_app (goodIn_of _ (by decide +kernel)) ggX5_lawNamed_X5_isName
theorem dX5_lawNamed_0 : decode cX5_lawNamed 0 = .ok (.aload_n 0, 1) := by decide +kernel
theorem dX5_lawNamed_1 : decode cX5_lawNamed 1 = .ok (.ldc 116, 2) := by decide +kernel
theorem dX5_lawNamed_3 : decode cX5_lawNamed 3 = .ok (.invokevirtual 39, 3) := by decide +kernel
theorem dX5_lawNamed_6 : decode cX5_lawNamed 6 = .ok (.ifCond .eq 5, 3) := by decide +kernel
theorem dX5_lawNamed_9 : decode cX5_lawNamed 9 = .ok (.iconst 0, 1) := by decide +kernel
theorem dX5_lawNamed_10 : decode cX5_lawNamed 10 = .ok (.ireturn, 1) := by decide +kernel
theorem dX5_lawNamed_11 : decode cX5_lawNamed 11 = .ok (.aload_n 0, 1) := by decide +kernel
theorem dX5_lawNamed_12 : decode cX5_lawNamed 12 = .ok (.ldc 118, 2) := by decide +kernel
theorem dX5_lawNamed_14 : decode cX5_lawNamed 14 = .ok (.invokevirtual 39, 3) := by decide +kernel
theorem dX5_lawNamed_17 : decode cX5_lawNamed 17 = .ok (.ifCond .eq 5, 3) := by decide +kernel
theorem dX5_lawNamed_20 : decode cX5_lawNamed 20 = .ok (.iconst 1, 1) := by decide +kernel
theorem dX5_lawNamed_21 : decode cX5_lawNamed 21 = .ok (.ireturn, 1) := by decide +kernel
theorem dX5_lawNamed_22 : decode cX5_lawNamed 22 = .ok (.aload_n 0, 1) := by decide +kernel
theorem dX5_lawNamed_23 : decode cX5_lawNamed 23 = .ok (.ldc 120, 2) := by decide +kernel
theorem dX5_lawNamed_25 : decode cX5_lawNamed 25 = .ok (.invokevirtual 39, 3) := by decide +kernel
theorem dX5_lawNamed_28 : decode cX5_lawNamed 28 = .ok (.ifCond .eq 5, 3) := by decide +kernel
theorem dX5_lawNamed_31 : decode cX5_lawNamed 31 = .ok (.iconst 2, 1) := by decide +kernel
theorem dX5_lawNamed_32 : decode cX5_lawNamed 32 = .ok (.ireturn, 1) := by decide +kernel
theorem dX5_lawNamed_33 : decode cX5_lawNamed 33 = .ok (.aload_n 0, 1) := by decide +kernel
theorem dX5_lawNamed_34 : decode cX5_lawNamed 34 = .ok (.ldc 122, 2) := by decide +kernel
theorem dX5_lawNamed_36 : decode cX5_lawNamed 36 = .ok (.invokevirtual 39, 3) := by decide +kernel
theorem dX5_lawNamed_39 : decode cX5_lawNamed 39 = .ok (.ifCond .eq 7, 3) := by decide +kernel
theorem dX5_lawNamed_42 : decode cX5_lawNamed 42 = .ok (.iconst 3, 1) := by decide +kernel
theorem dX5_lawNamed_43 : decode cX5_lawNamed 43 = .ok (.goto 4, 3) := by decide +kernel
theorem dX5_lawNamed_46 : decode cX5_lawNamed 46 = .ok (.iconst (-1), 1) := by decide +kernel
theorem dX5_lawNamed_47 : decode cX5_lawNamed 47 = .ok (.ireturn, 1) := by decide +kernel
set_option maxRecDepth 20000 in
theorem ggX5_isName_J0_length_8abf5 : GoodIn wsX5_isName wsJ0_length_8abf5 := goodIn_r _ [10, 11, 12, 13, 14, 9, 15, 16, 17] (by decide +kernel) (by decide +kernel)
set_option maxRecDepth 20000 in
theorem gX5_isName_J0_length_8abf5 : GoodIn wsX5_isName (wsV RX5 124 RJ0 yJ0_length_8abf5 wsJ0_length_8abf5) := goodIn_app (goodIn_of _ (by decide +kernel)) ggX5_isName_J0_length_8abf5
set_option maxRecDepth 20000 in
theorem ggX5_isName_J0_charAt_5068e : GoodIn wsX5_isName wsJ0_charAt_5068e := goodIn_r _ [21, 11, 22, 23, 24, 9, 25, 16, 17, 26, 27, 28, 29, 30, 31, 32, 33, 34, 35, 36, 37, 38, 39, 40, 41, 42, 43, 44, 45, 46, 47, 48, 49, 50, 51, 52, 53, 54] (by decide +kernel) (by decide +kernel)
set_option maxRecDepth 20000 in
theorem gX5_isName_J0_charAt_5068e : GoodIn wsX5_isName (wsV RX5 129 RJ0 yJ0_charAt_5068e wsJ0_charAt_5068e) := goodIn_app (goodIn_of _ (by decide +kernel)) ggX5_isName_J0_charAt_5068e
theorem dX5_isName_0 : decode cX5_isName 0 = .ok (.aload_n 0, 1) := by decide +kernel
theorem dX5_isName_1 : decode cX5_isName 1 = .ok (.getfield 26, 3) := by decide +kernel
theorem dX5_isName_4 : decode cX5_isName 4 = .ok (.iconst 1, 1) := by decide +kernel
theorem dX5_isName_5 : decode cX5_isName 5 = .ok (.if_icmp .ne 19, 3) := by decide +kernel
theorem dX5_isName_8 : decode cX5_isName 8 = .ok (.aload_n 0, 1) := by decide +kernel
theorem dX5_isName_9 : decode cX5_isName 9 = .ok (.getfield 19, 3) := by decide +kernel
theorem dX5_isName_12 : decode cX5_isName 12 = .ok (.aload_n 0, 1) := by decide +kernel
theorem dX5_isName_13 : decode cX5_isName 13 = .ok (.getfield 101, 3) := by decide +kernel
theorem dX5_isName_16 : decode cX5_isName 16 = .ok (.isub, 1) := by decide +kernel
theorem dX5_isName_17 : decode cX5_isName 17 = .ok (.aload_n 1, 1) := by decide +kernel
theorem dX5_isName_18 : decode cX5_isName 18 = .ok (.invokevirtual 124, 3) := by decide +kernel
theorem dX5_isName_21 : decode cX5_isName 21 = .ok (.if_icmp .eq 5, 3) := by decide +kernel
theorem dX5_isName_24 : decode cX5_isName 24 = .ok (.iconst 0, 1) := by decide +kernel
theorem dX5_isName_25 : decode cX5_isName 25 = .ok (.ireturn, 1) := by decide +kernel
theorem dX5_isName_26 : decode cX5_isName 26 = .ok (.iconst 0, 1) := by decide +kernel
theorem dX5_isName_27 : decode cX5_isName 27 = .ok (.istore_n 2, 1) := by decide +kernel
theorem dX5_isName_28 : decode cX5_isName 28 = .ok (.iload_n 2, 1) := by decide +kernel
theorem dX5_isName_29 : decode cX5_isName 29 = .ok (.aload_n 1, 1) := by decide +kernel
theorem dX5_isName_30 : decode cX5_isName 30 = .ok (.invokevirtual 124, 3) := by decide +kernel
theorem dX5_isName_33 : decode cX5_isName 33 = .ok (.if_icmp .ge 33, 3) := by decide +kernel
theorem dX5_isName_36 : decode cX5_isName 36 = .ok (.aload_n 0, 1) := by decide +kernel
theorem dX5_isName_37 : decode cX5_isName 37 = .ok (.getfield 9, 3) := by decide +kernel
theorem dX5_isName_40 : decode cX5_isName 40 = .ok (.getfield 95, 3) := by decide +kernel
theorem dX5_isName_43 : decode cX5_isName 43 = .ok (.aload_n 0, 1) := by decide +kernel
theorem dX5_isName_44 : decode cX5_isName 44 = .ok (.getfield 101, 3) := by decide +kernel
theorem dX5_isName_47 : decode cX5_isName 47 = .ok (.iload_n 2, 1) := by decide +kernel
theorem dX5_isName_48 : decode cX5_isName 48 = .ok (.iadd, 1) := by decide +kernel
theorem dX5_isName_49 : decode cX5_isName 49 = .ok (.baload, 1) := by decide +kernel
theorem dX5_isName_50 : decode cX5_isName 50 = .ok (.aload_n 1, 1) := by decide +kernel
theorem dX5_isName_51 : decode cX5_isName 51 = .ok (.iload_n 2, 1) := by decide +kernel
theorem dX5_isName_52 : decode cX5_isName 52 = .ok (.invokevirtual 129, 3) := by decide +kernel
theorem dX5_isName_55 : decode cX5_isName 55 = .ok (.if_icmp .eq 5, 3) := by decide +kernel
theorem dX5_isName_58 : decode cX5_isName 58 = .ok (.iconst 0, 1) := by decide +kernel
theorem dX5_isName_59 : decode cX5_isName 59 = .ok (.ireturn, 1) := by decide +kernel
theorem dX5_isName_60 : decode cX5_isName 60 = .ok (.iinc 2 1, 3) := by decide +kernel
theorem dX5_isName_63 : decode cX5_isName 63 = .ok (.goto (-35), 3) := by decide +kernel
theorem dX5_isName_66 : decode cX5_isName 66 = .ok (.iconst 1, 1) := by decide +kernel
theorem dX5_isName_67 : decode cX5_isName 67 = .ok (.ireturn, 1) := by decide +kernel
set_option maxRecDepth 20000 in
theorem ggX5_readAhead_X5_isLetter : GoodIn wsX5_readAhead wsX5_isLetter := goodIn_r _ [11] (by decide +kernel) (by decide +kernel)
set_option maxRecDepth 20000 in
theorem gX5_readAhead_X5_isLetter : GoodIn wsX5_readAhead (va_wsS RX5 135 yX5_isLetter wsX5_isLetter) := goodIn_app (goodIn_of _ (by decide +kernel)) ggX5_readAhead_X5_isLetter
set_option maxRecDepth 20000 in
theorem ggX5_readAhead_X5_isDigit : GoodIn wsX5_readAhead wsX5_isDigit := goodIn_r _ [14] (by decide +kernel) (by decide +kernel)
set_option maxRecDepth 20000 in
theorem gX5_readAhead_X5_isDigit : GoodIn wsX5_readAhead (va_wsS RX5 139 yX5_isDigit wsX5_isDigit) := goodIn_app (goodIn_of _ (by decide +kernel)) ggX5_readAhead_X5_isDigit
theorem dX5_readAhead_0 : decode cX5_readAhead 0 = .ok (.aload_n 0, 1) := by decide +kernel
theorem dX5_readAhead_1 : decode cX5_readAhead 1 = .ok (.getfield 19, 3) := by decide +kernel
theorem dX5_readAhead_4 : decode cX5_readAhead 4 = .ok (.aload_n 0, 1) := by decide +kernel
theorem dX5_readAhead_5 : decode cX5_readAhead 5 = .ok (.getfield 9, 3) := by decide +kernel
theorem dX5_readAhead_8 : decode cX5_readAhead 8 = .ok (.getfield 133, 3) := by decide +kernel
theorem dX5_readAhead_11 : decode cX5_readAhead 11 = .ok (.if_icmp .ge 33, 3) := by decide +kernel
theorem dX5_readAhead_14 : decode cX5_readAhead 14 = .ok (.aload_n 0, 1) := by decide +kernel
theorem dX5_readAhead_15 : decode cX5_readAhead 15 = .ok (.getfield 9, 3) := by decide +kernel
theorem dX5_readAhead_18 : decode cX5_readAhead 18 = .ok (.getfield 95, 3) := by decide +kernel
theorem dX5_readAhead_21 : decode cX5_readAhead 21 = .ok (.aload_n 0, 1) := by decide +kernel
theorem dX5_readAhead_22 : decode cX5_readAhead 22 = .ok (.getfield 19, 3) := by decide +kernel
theorem dX5_readAhead_25 : decode cX5_readAhead 25 = .ok (.baload, 1) := by decide +kernel
theorem dX5_readAhead_26 : decode cX5_readAhead 26 = .ok (.bipush 32, 2) := by decide +kernel
theorem dX5_readAhead_28 : decode cX5_readAhead 28 = .ok (.if_icmp .ne 16, 3) := by decide +kernel
theorem dX5_readAhead_31 : decode cX5_readAhead 31 = .ok (.aload_n 0, 1) := by decide +kernel
theorem dX5_readAhead_32 : decode cX5_readAhead 32 = .ok (.dup, 1) := by decide +kernel
theorem dX5_readAhead_33 : decode cX5_readAhead 33 = .ok (.getfield 19, 3) := by decide +kernel
theorem dX5_readAhead_36 : decode cX5_readAhead 36 = .ok (.iconst 1, 1) := by decide +kernel
theorem dX5_readAhead_37 : decode cX5_readAhead 37 = .ok (.iadd, 1) := by decide +kernel
theorem dX5_readAhead_38 : decode cX5_readAhead 38 = .ok (.putfield 19, 3) := by decide +kernel
theorem dX5_readAhead_41 : decode cX5_readAhead 41 = .ok (.goto (-41), 3) := by decide +kernel
theorem dX5_readAhead_44 : decode cX5_readAhead 44 = .ok (.aload_n 0, 1) := by decide +kernel
theorem dX5_readAhead_45 : decode cX5_readAhead 45 = .ok (.aload_n 0, 1) := by decide +kernel
theorem dX5_readAhead_46 : decode cX5_readAhead 46 = .ok (.getfield 19, 3) := by decide +kernel
theorem dX5_readAhead_49 : decode cX5_readAhead 49 = .ok (.putfield 101, 3) := by decide +kernel
theorem dX5_readAhead_52 : decode cX5_readAhead 52 = .ok (.aload_n 0, 1) := by decide +kernel
theorem dX5_readAhead_53 : decode cX5_readAhead 53 = .ok (.getfield 19, 3) := by decide +kernel
theorem dX5_readAhead_56 : decode cX5_readAhead 56 = .ok (.aload_n 0, 1) := by decide +kernel
theorem dX5_readAhead_57 : decode cX5_readAhead 57 = .ok (.getfield 9, 3) := by decide +kernel
theorem dX5_readAhead_60 : decode cX5_readAhead 60 = .ok (.getfield 133, 3) := by decide +kernel
theorem dX5_readAhead_63 : decode cX5_readAhead 63 = .ok (.if_icmp .lt 11, 3) := by decide +kernel
theorem dX5_readAhead_66 : decode cX5_readAhead 66 = .ok (.aload_n 0, 1) := by decide +kernel
theorem dX5_readAhead_67 : decode cX5_readAhead 67 = .ok (.iconst 0, 1) := by decide +kernel
theorem dX5_readAhead_68 : decode cX5_readAhead 68 = .ok (.putfield 26, 3) := by decide +kernel
theorem dX5_readAhead_71 : decode cX5_readAhead 71 = .ok (.goto 215, 3) := by decide +kernel
theorem dX5_readAhead_74 : decode cX5_readAhead 74 = .ok (.aload_n 0, 1) := by decide +kernel
theorem dX5_readAhead_75 : decode cX5_readAhead 75 = .ok (.getfield 9, 3) := by decide +kernel
theorem dX5_readAhead_78 : decode cX5_readAhead 78 = .ok (.getfield 95, 3) := by decide +kernel
theorem dX5_readAhead_81 : decode cX5_readAhead 81 = .ok (.aload_n 0, 1) := by decide +kernel
theorem dX5_readAhead_82 : decode cX5_readAhead 82 = .ok (.getfield 19, 3) := by decide +kernel
theorem dX5_readAhead_85 : decode cX5_readAhead 85 = .ok (.baload, 1) := by decide +kernel
theorem dX5_readAhead_86 : decode cX5_readAhead 86 = .ok (.invokestatic 135, 3) := by decide +kernel
theorem dX5_readAhead_89 : decode cX5_readAhead 89 = .ok (.ifCond .eq 53, 3) := by decide +kernel
theorem dX5_readAhead_92 : decode cX5_readAhead 92 = .ok (.aload_n 0, 1) := by decide +kernel
theorem dX5_readAhead_93 : decode cX5_readAhead 93 = .ok (.iconst 1, 1) := by decide +kernel
theorem dX5_readAhead_94 : decode cX5_readAhead 94 = .ok (.putfield 26, 3) := by decide +kernel
theorem dX5_readAhead_97 : decode cX5_readAhead 97 = .ok (.aload_n 0, 1) := by decide +kernel
theorem dX5_readAhead_98 : decode cX5_readAhead 98 = .ok (.getfield 19, 3) := by decide +kernel
theorem dX5_readAhead_101 : decode cX5_readAhead 101 = .ok (.aload_n 0, 1) := by decide +kernel
theorem dX5_readAhead_102 : decode cX5_readAhead 102 = .ok (.getfield 9, 3) := by decide +kernel
theorem dX5_readAhead_105 : decode cX5_readAhead 105 = .ok (.getfield 133, 3) := by decide +kernel
theorem dX5_readAhead_108 : decode cX5_readAhead 108 = .ok (.if_icmp .ge 178, 3) := by decide +kernel
theorem dX5_readAhead_111 : decode cX5_readAhead 111 = .ok (.aload_n 0, 1) := by decide +kernel
theorem dX5_readAhead_112 : decode cX5_readAhead 112 = .ok (.getfield 9, 3) := by decide +kernel
theorem dX5_readAhead_115 : decode cX5_readAhead 115 = .ok (.getfield 95, 3) := by decide +kernel
theorem dX5_readAhead_118 : decode cX5_readAhead 118 = .ok (.aload_n 0, 1) := by decide +kernel
theorem dX5_readAhead_119 : decode cX5_readAhead 119 = .ok (.getfield 19, 3) := by decide +kernel
theorem dX5_readAhead_122 : decode cX5_readAhead 122 = .ok (.baload, 1) := by decide +kernel
theorem dX5_readAhead_123 : decode cX5_readAhead 123 = .ok (.invokestatic 135, 3) := by decide +kernel
theorem dX5_readAhead_126 : decode cX5_readAhead 126 = .ok (.ifCond .eq 160, 3) := by decide +kernel
theorem dX5_readAhead_129 : decode cX5_readAhead 129 = .ok (.aload_n 0, 1) := by decide +kernel
theorem dX5_readAhead_130 : decode cX5_readAhead 130 = .ok (.dup, 1) := by decide +kernel
theorem dX5_readAhead_131 : decode cX5_readAhead 131 = .ok (.getfield 19, 3) := by decide +kernel
theorem dX5_readAhead_134 : decode cX5_readAhead 134 = .ok (.iconst 1, 1) := by decide +kernel
theorem dX5_readAhead_135 : decode cX5_readAhead 135 = .ok (.iadd, 1) := by decide +kernel
theorem dX5_readAhead_136 : decode cX5_readAhead 136 = .ok (.putfield 19, 3) := by decide +kernel
theorem dX5_readAhead_139 : decode cX5_readAhead 139 = .ok (.goto (-42), 3) := by decide +kernel
theorem dX5_readAhead_142 : decode cX5_readAhead 142 = .ok (.aload_n 0, 1) := by decide +kernel
theorem dX5_readAhead_143 : decode cX5_readAhead 143 = .ok (.getfield 9, 3) := by decide +kernel
theorem dX5_readAhead_146 : decode cX5_readAhead 146 = .ok (.getfield 95, 3) := by decide +kernel
theorem dX5_readAhead_149 : decode cX5_readAhead 149 = .ok (.aload_n 0, 1) := by decide +kernel
theorem dX5_readAhead_150 : decode cX5_readAhead 150 = .ok (.getfield 19, 3) := by decide +kernel
theorem dX5_readAhead_153 : decode cX5_readAhead 153 = .ok (.baload, 1) := by decide +kernel
theorem dX5_readAhead_154 : decode cX5_readAhead 154 = .ok (.invokestatic 139, 3) := by decide +kernel
theorem dX5_readAhead_157 : decode cX5_readAhead 157 = .ok (.ifCond .eq 114, 3) := by decide +kernel
theorem dX5_readAhead_160 : decode cX5_readAhead 160 = .ok (.aload_n 0, 1) := by decide +kernel
theorem dX5_readAhead_161 : decode cX5_readAhead 161 = .ok (.iconst 2, 1) := by decide +kernel
theorem dX5_readAhead_162 : decode cX5_readAhead 162 = .ok (.putfield 26, 3) := by decide +kernel
theorem dX5_readAhead_165 : decode cX5_readAhead 165 = .ok (.aload_n 0, 1) := by decide +kernel
theorem dX5_readAhead_166 : decode cX5_readAhead 166 = .ok (.iconst 0, 1) := by decide +kernel
theorem dX5_readAhead_167 : decode cX5_readAhead 167 = .ok (.putfield 88, 3) := by decide +kernel
theorem dX5_readAhead_170 : decode cX5_readAhead 170 = .ok (.aload_n 0, 1) := by decide +kernel
theorem dX5_readAhead_171 : decode cX5_readAhead 171 = .ok (.getfield 19, 3) := by decide +kernel
theorem dX5_readAhead_174 : decode cX5_readAhead 174 = .ok (.aload_n 0, 1) := by decide +kernel
theorem dX5_readAhead_175 : decode cX5_readAhead 175 = .ok (.getfield 9, 3) := by decide +kernel
theorem dX5_readAhead_178 : decode cX5_readAhead 178 = .ok (.getfield 133, 3) := by decide +kernel
theorem dX5_readAhead_181 : decode cX5_readAhead 181 = .ok (.if_icmp .ge 105, 3) := by decide +kernel
theorem dX5_readAhead_184 : decode cX5_readAhead 184 = .ok (.aload_n 0, 1) := by decide +kernel
theorem dX5_readAhead_185 : decode cX5_readAhead 185 = .ok (.getfield 9, 3) := by decide +kernel
theorem dX5_readAhead_188 : decode cX5_readAhead 188 = .ok (.getfield 95, 3) := by decide +kernel
theorem dX5_readAhead_191 : decode cX5_readAhead 191 = .ok (.aload_n 0, 1) := by decide +kernel
theorem dX5_readAhead_192 : decode cX5_readAhead 192 = .ok (.getfield 19, 3) := by decide +kernel
theorem dX5_readAhead_195 : decode cX5_readAhead 195 = .ok (.baload, 1) := by decide +kernel
theorem dX5_readAhead_196 : decode cX5_readAhead 196 = .ok (.invokestatic 139, 3) := by decide +kernel
theorem dX5_readAhead_199 : decode cX5_readAhead 199 = .ok (.ifCond .eq 87, 3) := by decide +kernel
theorem dX5_readAhead_202 : decode cX5_readAhead 202 = .ok (.aload_n 0, 1) := by decide +kernel
theorem dX5_readAhead_203 : decode cX5_readAhead 203 = .ok (.getfield 19, 3) := by decide +kernel
theorem dX5_readAhead_206 : decode cX5_readAhead 206 = .ok (.aload_n 0, 1) := by decide +kernel
theorem dX5_readAhead_207 : decode cX5_readAhead 207 = .ok (.getfield 101, 3) := by decide +kernel
theorem dX5_readAhead_210 : decode cX5_readAhead 210 = .ok (.isub, 1) := by decide +kernel
theorem dX5_readAhead_211 : decode cX5_readAhead 211 = .ok (.iconst 3, 1) := by decide +kernel
theorem dX5_readAhead_212 : decode cX5_readAhead 212 = .ok (.if_icmp .lt 7, 3) := by decide +kernel
theorem dX5_readAhead_215 : decode cX5_readAhead 215 = .ok (.iconst 1, 1) := by decide +kernel
theorem dX5_readAhead_216 : decode cX5_readAhead 216 = .ok (.goto 4, 3) := by decide +kernel
theorem dX5_readAhead_219 : decode cX5_readAhead 219 = .ok (.iconst 0, 1) := by decide +kernel
theorem dX5_readAhead_220 : decode cX5_readAhead 220 = .ok (.istore_n 1, 1) := by decide +kernel
theorem dX5_readAhead_221 : decode cX5_readAhead 221 = .ok (.aload_n 0, 1) := by decide +kernel
theorem dX5_readAhead_222 : decode cX5_readAhead 222 = .ok (.iload_n 1, 1) := by decide +kernel
theorem dX5_readAhead_223 : decode cX5_readAhead 223 = .ok (.ifCond .eq 9, 3) := by decide +kernel
theorem dX5_readAhead_226 : decode cX5_readAhead 226 = .ok (.sipush 1000, 3) := by decide +kernel
theorem dX5_readAhead_229 : decode cX5_readAhead 229 = .ok (.goto 26, 3) := by decide +kernel
theorem dX5_readAhead_232 : decode cX5_readAhead 232 = .ok (.aload_n 0, 1) := by decide +kernel
theorem dX5_readAhead_233 : decode cX5_readAhead 233 = .ok (.getfield 88, 3) := by decide +kernel
theorem dX5_readAhead_236 : decode cX5_readAhead 236 = .ok (.bipush 10, 2) := by decide +kernel
theorem dX5_readAhead_238 : decode cX5_readAhead 238 = .ok (.imul, 1) := by decide +kernel
theorem dX5_readAhead_239 : decode cX5_readAhead 239 = .ok (.aload_n 0, 1) := by decide +kernel
theorem dX5_readAhead_240 : decode cX5_readAhead 240 = .ok (.getfield 9, 3) := by decide +kernel
theorem dX5_readAhead_243 : decode cX5_readAhead 243 = .ok (.getfield 95, 3) := by decide +kernel
theorem dX5_readAhead_246 : decode cX5_readAhead 246 = .ok (.aload_n 0, 1) := by decide +kernel
theorem dX5_readAhead_247 : decode cX5_readAhead 247 = .ok (.getfield 19, 3) := by decide +kernel
theorem dX5_readAhead_250 : decode cX5_readAhead 250 = .ok (.baload, 1) := by decide +kernel
theorem dX5_readAhead_251 : decode cX5_readAhead 251 = .ok (.bipush 48, 2) := by decide +kernel
theorem dX5_readAhead_253 : decode cX5_readAhead 253 = .ok (.isub, 1) := by decide +kernel
theorem dX5_readAhead_254 : decode cX5_readAhead 254 = .ok (.iadd, 1) := by decide +kernel
theorem dX5_readAhead_255 : decode cX5_readAhead 255 = .ok (.putfield 88, 3) := by decide +kernel
theorem dX5_readAhead_258 : decode cX5_readAhead 258 = .ok (.aload_n 0, 1) := by decide +kernel
theorem dX5_readAhead_259 : decode cX5_readAhead 259 = .ok (.dup, 1) := by decide +kernel
theorem dX5_readAhead_260 : decode cX5_readAhead 260 = .ok (.getfield 19, 3) := by decide +kernel
theorem dX5_readAhead_263 : decode cX5_readAhead 263 = .ok (.iconst 1, 1) := by decide +kernel
theorem dX5_readAhead_264 : decode cX5_readAhead 264 = .ok (.iadd, 1) := by decide +kernel
theorem dX5_readAhead_265 : decode cX5_readAhead 265 = .ok (.putfield 19, 3) := by decide +kernel
theorem dX5_readAhead_268 : decode cX5_readAhead 268 = .ok (.goto (-98), 3) := by decide +kernel
theorem dX5_readAhead_271 : decode cX5_readAhead 271 = .ok (.aload_n 0, 1) := by decide +kernel
theorem dX5_readAhead_272 : decode cX5_readAhead 272 = .ok (.iconst 3, 1) := by decide +kernel
theorem dX5_readAhead_273 : decode cX5_readAhead 273 = .ok (.putfield 26, 3) := by decide +kernel
theorem dX5_readAhead_276 : decode cX5_readAhead 276 = .ok (.aload_n 0, 1) := by decide +kernel
theorem dX5_readAhead_277 : decode cX5_readAhead 277 = .ok (.dup, 1) := by decide +kernel
theorem dX5_readAhead_278 : decode cX5_readAhead 278 = .ok (.getfield 19, 3) := by decide +kernel
theorem dX5_readAhead_281 : decode cX5_readAhead 281 = .ok (.iconst 1, 1) := by decide +kernel
theorem dX5_readAhead_282 : decode cX5_readAhead 282 = .ok (.iadd, 1) := by decide +kernel
theorem dX5_readAhead_283 : decode cX5_readAhead 283 = .ok (.putfield 19, 3) := by decide +kernel
theorem dX5_readAhead_286 : decode cX5_readAhead 286 = .ok (.return_, 1) := by decide +kernel
theorem dX5_isLetter_0 : decode cX5_isLetter 0 = .ok (.iload_n 0, 1) := by decide +kernel
theorem dX5_isLetter_1 : decode cX5_isLetter 1 = .ok (.bipush 97, 2) := by decide +kernel
theorem dX5_isLetter_3 : decode cX5_isLetter 3 = .ok (.if_icmp .lt 13, 3) := by decide +kernel
theorem dX5_isLetter_6 : decode cX5_isLetter 6 = .ok (.iload_n 0, 1) := by decide +kernel
theorem dX5_isLetter_7 : decode cX5_isLetter 7 = .ok (.bipush 122, 2) := by decide +kernel
theorem dX5_isLetter_9 : decode cX5_isLetter 9 = .ok (.if_icmp .gt 7, 3) := by decide +kernel
theorem dX5_isLetter_12 : decode cX5_isLetter 12 = .ok (.iconst 1, 1) := by decide +kernel
theorem dX5_isLetter_13 : decode cX5_isLetter 13 = .ok (.goto 4, 3) := by decide +kernel
theorem dX5_isLetter_16 : decode cX5_isLetter 16 = .ok (.iconst 0, 1) := by decide +kernel
theorem dX5_isLetter_17 : decode cX5_isLetter 17 = .ok (.ireturn, 1) := by decide +kernel
theorem dX5_isDigit_0 : decode cX5_isDigit 0 = .ok (.iload_n 0, 1) := by decide +kernel
theorem dX5_isDigit_1 : decode cX5_isDigit 1 = .ok (.bipush 48, 2) := by decide +kernel
theorem dX5_isDigit_3 : decode cX5_isDigit 3 = .ok (.if_icmp .lt 13, 3) := by decide +kernel
theorem dX5_isDigit_6 : decode cX5_isDigit 6 = .ok (.iload_n 0, 1) := by decide +kernel
theorem dX5_isDigit_7 : decode cX5_isDigit 7 = .ok (.bipush 57, 2) := by decide +kernel
theorem dX5_isDigit_9 : decode cX5_isDigit 9 = .ok (.if_icmp .gt 7, 3) := by decide +kernel
theorem dX5_isDigit_12 : decode cX5_isDigit 12 = .ok (.iconst 1, 1) := by decide +kernel
theorem dX5_isDigit_13 : decode cX5_isDigit 13 = .ok (.goto 4, 3) := by decide +kernel
theorem dX5_isDigit_16 : decode cX5_isDigit 16 = .ok (.iconst 0, 1) := by decide +kernel
theorem dX5_isDigit_17 : decode cX5_isDigit 17 = .ok (.ireturn, 1) := by decide +kernel
set_option maxRecDepth 20000 in
theorem ggX6_init_X6_setFirstLaws : GoodIn wsX6_init wsX6_setFirstLaws := goodIn_r _ [18, 5, 19, 20, 21, 22, 23, 24, 25, 26, 27, 28, 29, 30] (by decide +kernel) (by decide +kernel)
set_option maxRecDepth 20000 in
theorem gX6_init_X6_setFirstLaws : GoodIn wsX6_init (wsV RX6 34 RX6 yX6_setFirstLaws wsX6_setFirstLaws) := goodIn_app (goodIn_of _ (by decide +kernel)) ggX6_init_X6_setFirstLaws
theorem dX6_init_0 : decode cX6_init 0 = .ok (.aload_n 0, 1) := by decide +kernel
theorem dX6_init_1 : decode cX6_init 1 = .ok (.invokespecial 3, 3) := by decide +kernel
theorem dX6_init_4 : decode cX6_init 4 = .ok (.aload_n 0, 1) := by decide +kernel
theorem dX6_init_5 : decode cX6_init 5 = .ok (.iconst 4, 1) := by decide +kernel
theorem dX6_init_6 : decode cX6_init 6 = .ok (.newarray .int, 2) := by decide +kernel
theorem dX6_init_8 : decode cX6_init 8 = .ok (.putfield 9, 3) := by decide +kernel
theorem dX6_init_11 : decode cX6_init 11 = .ok (.aload_n 0, 1) := by decide +kernel
theorem dX6_init_12 : decode cX6_init 12 = .ok (.bipush 8, 2) := by decide +kernel
theorem dX6_init_14 : decode cX6_init 14 = .ok (.newarray .int, 2) := by decide +kernel
theorem dX6_init_16 : decode cX6_init 16 = .ok (.putfield 15, 3) := by decide +kernel
theorem dX6_init_19 : decode cX6_init 19 = .ok (.aload_n 0, 1) := by decide +kernel
theorem dX6_init_20 : decode cX6_init 20 = .ok (.bipush 8, 2) := by decide +kernel
theorem dX6_init_22 : decode cX6_init 22 = .ok (.newarray .int, 2) := by decide +kernel
theorem dX6_init_24 : decode cX6_init 24 = .ok (.putfield 18, 3) := by decide +kernel
theorem dX6_init_27 : decode cX6_init 27 = .ok (.aload_n 0, 1) := by decide +kernel
theorem dX6_init_28 : decode cX6_init 28 = .ok (.bipush 8, 2) := by decide +kernel
theorem dX6_init_30 : decode cX6_init 30 = .ok (.newarray .int, 2) := by decide +kernel
theorem dX6_init_32 : decode cX6_init 32 = .ok (.putfield 21, 3) := by decide +kernel
theorem dX6_init_35 : decode cX6_init 35 = .ok (.aload_n 0, 1) := by decide +kernel
theorem dX6_init_36 : decode cX6_init 36 = .ok (.bipush 8, 2) := by decide +kernel
theorem dX6_init_38 : decode cX6_init 38 = .ok (.newarray .int, 2) := by decide +kernel
theorem dX6_init_40 : decode cX6_init 40 = .ok (.putfield 24, 3) := by decide +kernel
theorem dX6_init_43 : decode cX6_init 43 = .ok (.aload_n 0, 1) := by decide +kernel
theorem dX6_init_44 : decode cX6_init 44 = .ok (.bipush 8, 2) := by decide +kernel
theorem dX6_init_46 : decode cX6_init 46 = .ok (.newarray .int, 2) := by decide +kernel
theorem dX6_init_48 : decode cX6_init 48 = .ok (.putfield 27, 3) := by decide +kernel
theorem dX6_init_51 : decode cX6_init 51 = .ok (.aload_n 0, 1) := by decide +kernel
theorem dX6_init_52 : decode cX6_init 52 = .ok (.bipush 8, 2) := by decide +kernel
theorem dX6_init_54 : decode cX6_init 54 = .ok (.newarray .boolean, 2) := by decide +kernel
theorem dX6_init_56 : decode cX6_init 56 = .ok (.putfield 30, 3) := by decide +kernel
theorem dX6_init_59 : decode cX6_init 59 = .ok (.aload_n 0, 1) := by decide +kernel
theorem dX6_init_60 : decode cX6_init 60 = .ok (.invokevirtual 34, 3) := by decide +kernel
theorem dX6_init_63 : decode cX6_init 63 = .ok (.aload_n 0, 1) := by decide +kernel
theorem dX6_init_64 : decode cX6_init 64 = .ok (.iconst 1, 1) := by decide +kernel
theorem dX6_init_65 : decode cX6_init 65 = .ok (.putfield 37, 3) := by decide +kernel
theorem dX6_init_68 : decode cX6_init 68 = .ok (.return_, 1) := by decide +kernel
theorem dX6_setFirstLaws_0 : decode cX6_setFirstLaws 0 = .ok (.aload_n 0, 1) := by decide +kernel
theorem dX6_setFirstLaws_1 : decode cX6_setFirstLaws 1 = .ok (.getfield 9, 3) := by decide +kernel
theorem dX6_setFirstLaws_4 : decode cX6_setFirstLaws 4 = .ok (.iconst 0, 1) := by decide +kernel
theorem dX6_setFirstLaws_5 : decode cX6_setFirstLaws 5 = .ok (.iconst 2, 1) := by decide +kernel
theorem dX6_setFirstLaws_6 : decode cX6_setFirstLaws 6 = .ok (.iastore, 1) := by decide +kernel
theorem dX6_setFirstLaws_7 : decode cX6_setFirstLaws 7 = .ok (.aload_n 0, 1) := by decide +kernel
theorem dX6_setFirstLaws_8 : decode cX6_setFirstLaws 8 = .ok (.getfield 9, 3) := by decide +kernel
theorem dX6_setFirstLaws_11 : decode cX6_setFirstLaws 11 = .ok (.iconst 1, 1) := by decide +kernel
theorem dX6_setFirstLaws_12 : decode cX6_setFirstLaws 12 = .ok (.iconst 1, 1) := by decide +kernel
theorem dX6_setFirstLaws_13 : decode cX6_setFirstLaws 13 = .ok (.iastore, 1) := by decide +kernel
theorem dX6_setFirstLaws_14 : decode cX6_setFirstLaws 14 = .ok (.aload_n 0, 1) := by decide +kernel
theorem dX6_setFirstLaws_15 : decode cX6_setFirstLaws 15 = .ok (.getfield 9, 3) := by decide +kernel
theorem dX6_setFirstLaws_18 : decode cX6_setFirstLaws 18 = .ok (.iconst 2, 1) := by decide +kernel
theorem dX6_setFirstLaws_19 : decode cX6_setFirstLaws 19 = .ok (.iconst 3, 1) := by decide +kernel
theorem dX6_setFirstLaws_20 : decode cX6_setFirstLaws 20 = .ok (.iastore, 1) := by decide +kernel
theorem dX6_setFirstLaws_21 : decode cX6_setFirstLaws 21 = .ok (.aload_n 0, 1) := by decide +kernel
theorem dX6_setFirstLaws_22 : decode cX6_setFirstLaws 22 = .ok (.getfield 9, 3) := by decide +kernel
theorem dX6_setFirstLaws_25 : decode cX6_setFirstLaws 25 = .ok (.iconst 3, 1) := by decide +kernel
theorem dX6_setFirstLaws_26 : decode cX6_setFirstLaws 26 = .ok (.bipush 20, 2) := by decide +kernel
theorem dX6_setFirstLaws_28 : decode cX6_setFirstLaws 28 = .ok (.iastore, 1) := by decide +kernel
theorem dX6_setFirstLaws_29 : decode cX6_setFirstLaws 29 = .ok (.return_, 1) := by decide +kernel
set_option maxRecDepth 20000 in
theorem ggX6_beginAnew_X6_setFirstLaws : GoodIn wsX6_beginAnew wsX6_setFirstLaws := goodIn_r _ [9, 10, 11, 12, 13, 14, 15, 16, 17, 18, 19, 20, 21, 22] (by decide +kernel) (by decide +kernel)
set_option maxRecDepth 20000 in
theorem gX6_beginAnew_X6_setFirstLaws : GoodIn wsX6_beginAnew (wsV RX6 34 RX6 yX6_setFirstLaws wsX6_setFirstLaws) := goodIn_app (goodIn_of _ (by decide +kernel)) ggX6_beginAnew_X6_setFirstLaws
theorem dX6_beginAnew_0 : decode cX6_beginAnew 0 = .ok (.aload_n 0, 1) := by decide +kernel
theorem dX6_beginAnew_1 : decode cX6_beginAnew 1 = .ok (.invokevirtual 34, 3) := by decide +kernel
theorem dX6_beginAnew_4 : decode cX6_beginAnew 4 = .ok (.aload_n 0, 1) := by decide +kernel
theorem dX6_beginAnew_5 : decode cX6_beginAnew 5 = .ok (.iconst 0, 1) := by decide +kernel
theorem dX6_beginAnew_6 : decode cX6_beginAnew 6 = .ok (.putfield 41, 3) := by decide +kernel
theorem dX6_beginAnew_9 : decode cX6_beginAnew 9 = .ok (.aload_n 0, 1) := by decide +kernel
theorem dX6_beginAnew_10 : decode cX6_beginAnew 10 = .ok (.iconst 0, 1) := by decide +kernel
theorem dX6_beginAnew_11 : decode cX6_beginAnew 11 = .ok (.putfield 44, 3) := by decide +kernel
theorem dX6_beginAnew_14 : decode cX6_beginAnew 14 = .ok (.aload_n 0, 1) := by decide +kernel
theorem dX6_beginAnew_15 : decode cX6_beginAnew 15 = .ok (.iconst 0, 1) := by decide +kernel
theorem dX6_beginAnew_16 : decode cX6_beginAnew 16 = .ok (.putfield 47, 3) := by decide +kernel
theorem dX6_beginAnew_19 : decode cX6_beginAnew 19 = .ok (.aload_n 0, 1) := by decide +kernel
theorem dX6_beginAnew_20 : decode cX6_beginAnew 20 = .ok (.iconst 0, 1) := by decide +kernel
theorem dX6_beginAnew_21 : decode cX6_beginAnew 21 = .ok (.putfield 50, 3) := by decide +kernel
theorem dX6_beginAnew_24 : decode cX6_beginAnew 24 = .ok (.return_, 1) := by decide +kernel
set_option maxRecDepth 20000 in
theorem ggX6_copyFrom_X6_copyLawsAndDay : GoodIn wsX6_copyFrom wsX6_copyLawsAndDay := goodIn_r _ [15, 16, 17, 18, 19, 20, 21, 22, 23, 24, 25, 26, 27, 28, 29] (by decide +kernel) (by decide +kernel)
set_option maxRecDepth 20000 in
theorem gX6_copyFrom_X6_copyLawsAndDay : GoodIn wsX6_copyFrom (wsV RX6 53 RX6 yX6_copyLawsAndDay wsX6_copyLawsAndDay) := goodIn_app (goodIn_of _ (by decide +kernel)) ggX6_copyFrom_X6_copyLawsAndDay
theorem dX6_copyFrom_0 : decode cX6_copyFrom 0 = .ok (.aload_n 0, 1) := by decide +kernel
theorem dX6_copyFrom_1 : decode cX6_copyFrom 1 = .ok (.aload_n 1, 1) := by decide +kernel
theorem dX6_copyFrom_2 : decode cX6_copyFrom 2 = .ok (.invokevirtual 53, 3) := by decide +kernel
theorem dX6_copyFrom_5 : decode cX6_copyFrom 5 = .ok (.aload_n 0, 1) := by decide +kernel
theorem dX6_copyFrom_6 : decode cX6_copyFrom 6 = .ok (.aload_n 1, 1) := by decide +kernel
theorem dX6_copyFrom_7 : decode cX6_copyFrom 7 = .ok (.getfield 47, 3) := by decide +kernel
theorem dX6_copyFrom_10 : decode cX6_copyFrom 10 = .ok (.putfield 47, 3) := by decide +kernel
theorem dX6_copyFrom_13 : decode cX6_copyFrom 13 = .ok (.aload_n 0, 1) := by decide +kernel
theorem dX6_copyFrom_14 : decode cX6_copyFrom 14 = .ok (.aload_n 1, 1) := by decide +kernel
theorem dX6_copyFrom_15 : decode cX6_copyFrom 15 = .ok (.getfield 50, 3) := by decide +kernel
theorem dX6_copyFrom_18 : decode cX6_copyFrom 18 = .ok (.putfield 50, 3) := by decide +kernel
theorem dX6_copyFrom_21 : decode cX6_copyFrom 21 = .ok (.aload_n 0, 1) := by decide +kernel
theorem dX6_copyFrom_22 : decode cX6_copyFrom 22 = .ok (.aload_n 1, 1) := by decide +kernel
theorem dX6_copyFrom_23 : decode cX6_copyFrom 23 = .ok (.getfield 37, 3) := by decide +kernel
theorem dX6_copyFrom_26 : decode cX6_copyFrom 26 = .ok (.putfield 37, 3) := by decide +kernel
theorem dX6_copyFrom_29 : decode cX6_copyFrom 29 = .ok (.aload_n 0, 1) := by decide +kernel
theorem dX6_copyFrom_30 : decode cX6_copyFrom 30 = .ok (.aload_n 1, 1) := by decide +kernel
theorem dX6_copyFrom_31 : decode cX6_copyFrom 31 = .ok (.getfield 41, 3) := by decide +kernel
theorem dX6_copyFrom_34 : decode cX6_copyFrom 34 = .ok (.putfield 41, 3) := by decide +kernel
theorem dX6_copyFrom_37 : decode cX6_copyFrom 37 = .ok (.iconst 0, 1) := by decide +kernel
theorem dX6_copyFrom_38 : decode cX6_copyFrom 38 = .ok (.istore_n 2, 1) := by decide +kernel
theorem dX6_copyFrom_39 : decode cX6_copyFrom 39 = .ok (.iload_n 2, 1) := by decide +kernel
theorem dX6_copyFrom_40 : decode cX6_copyFrom 40 = .ok (.aload_n 0, 1) := by decide +kernel
theorem dX6_copyFrom_41 : decode cX6_copyFrom 41 = .ok (.getfield 41, 3) := by decide +kernel
theorem dX6_copyFrom_44 : decode cX6_copyFrom 44 = .ok (.if_icmp .ge 81, 3) := by decide +kernel
theorem dX6_copyFrom_47 : decode cX6_copyFrom 47 = .ok (.aload_n 0, 1) := by decide +kernel
theorem dX6_copyFrom_48 : decode cX6_copyFrom 48 = .ok (.getfield 15, 3) := by decide +kernel
theorem dX6_copyFrom_51 : decode cX6_copyFrom 51 = .ok (.iload_n 2, 1) := by decide +kernel
theorem dX6_copyFrom_52 : decode cX6_copyFrom 52 = .ok (.aload_n 1, 1) := by decide +kernel
theorem dX6_copyFrom_53 : decode cX6_copyFrom 53 = .ok (.getfield 15, 3) := by decide +kernel
theorem dX6_copyFrom_56 : decode cX6_copyFrom 56 = .ok (.iload_n 2, 1) := by decide +kernel
theorem dX6_copyFrom_57 : decode cX6_copyFrom 57 = .ok (.iaload, 1) := by decide +kernel
theorem dX6_copyFrom_58 : decode cX6_copyFrom 58 = .ok (.iastore, 1) := by decide +kernel
theorem dX6_copyFrom_59 : decode cX6_copyFrom 59 = .ok (.aload_n 0, 1) := by decide +kernel
theorem dX6_copyFrom_60 : decode cX6_copyFrom 60 = .ok (.getfield 18, 3) := by decide +kernel
theorem dX6_copyFrom_63 : decode cX6_copyFrom 63 = .ok (.iload_n 2, 1) := by decide +kernel
theorem dX6_copyFrom_64 : decode cX6_copyFrom 64 = .ok (.aload_n 1, 1) := by decide +kernel
theorem dX6_copyFrom_65 : decode cX6_copyFrom 65 = .ok (.getfield 18, 3) := by decide +kernel
theorem dX6_copyFrom_68 : decode cX6_copyFrom 68 = .ok (.iload_n 2, 1) := by decide +kernel
theorem dX6_copyFrom_69 : decode cX6_copyFrom 69 = .ok (.iaload, 1) := by decide +kernel
theorem dX6_copyFrom_70 : decode cX6_copyFrom 70 = .ok (.iastore, 1) := by decide +kernel
theorem dX6_copyFrom_71 : decode cX6_copyFrom 71 = .ok (.aload_n 0, 1) := by decide +kernel
theorem dX6_copyFrom_72 : decode cX6_copyFrom 72 = .ok (.getfield 21, 3) := by decide +kernel
theorem dX6_copyFrom_75 : decode cX6_copyFrom 75 = .ok (.iload_n 2, 1) := by decide +kernel
theorem dX6_copyFrom_76 : decode cX6_copyFrom 76 = .ok (.aload_n 1, 1) := by decide +kernel
theorem dX6_copyFrom_77 : decode cX6_copyFrom 77 = .ok (.getfield 21, 3) := by decide +kernel
theorem dX6_copyFrom_80 : decode cX6_copyFrom 80 = .ok (.iload_n 2, 1) := by decide +kernel
theorem dX6_copyFrom_81 : decode cX6_copyFrom 81 = .ok (.iaload, 1) := by decide +kernel
theorem dX6_copyFrom_82 : decode cX6_copyFrom 82 = .ok (.iastore, 1) := by decide +kernel
theorem dX6_copyFrom_83 : decode cX6_copyFrom 83 = .ok (.aload_n 0, 1) := by decide +kernel
theorem dX6_copyFrom_84 : decode cX6_copyFrom 84 = .ok (.getfield 24, 3) := by decide +kernel
theorem dX6_copyFrom_87 : decode cX6_copyFrom 87 = .ok (.iload_n 2, 1) := by decide +kernel
theorem dX6_copyFrom_88 : decode cX6_copyFrom 88 = .ok (.aload_n 1, 1) := by decide +kernel
theorem dX6_copyFrom_89 : decode cX6_copyFrom 89 = .ok (.getfield 24, 3) := by decide +kernel
theorem dX6_copyFrom_92 : decode cX6_copyFrom 92 = .ok (.iload_n 2, 1) := by decide +kernel
theorem dX6_copyFrom_93 : decode cX6_copyFrom 93 = .ok (.iaload, 1) := by decide +kernel
theorem dX6_copyFrom_94 : decode cX6_copyFrom 94 = .ok (.iastore, 1) := by decide +kernel
theorem dX6_copyFrom_95 : decode cX6_copyFrom 95 = .ok (.aload_n 0, 1) := by decide +kernel
theorem dX6_copyFrom_96 : decode cX6_copyFrom 96 = .ok (.getfield 27, 3) := by decide +kernel
theorem dX6_copyFrom_99 : decode cX6_copyFrom 99 = .ok (.iload_n 2, 1) := by decide +kernel
theorem dX6_copyFrom_100 : decode cX6_copyFrom 100 = .ok (.aload_n 1, 1) := by decide +kernel
theorem dX6_copyFrom_101 : decode cX6_copyFrom 101 = .ok (.getfield 27, 3) := by decide +kernel
theorem dX6_copyFrom_104 : decode cX6_copyFrom 104 = .ok (.iload_n 2, 1) := by decide +kernel
theorem dX6_copyFrom_105 : decode cX6_copyFrom 105 = .ok (.iaload, 1) := by decide +kernel
theorem dX6_copyFrom_106 : decode cX6_copyFrom 106 = .ok (.iastore, 1) := by decide +kernel
theorem dX6_copyFrom_107 : decode cX6_copyFrom 107 = .ok (.aload_n 0, 1) := by decide +kernel
theorem dX6_copyFrom_108 : decode cX6_copyFrom 108 = .ok (.getfield 30, 3) := by decide +kernel
theorem dX6_copyFrom_111 : decode cX6_copyFrom 111 = .ok (.iload_n 2, 1) := by decide +kernel
theorem dX6_copyFrom_112 : decode cX6_copyFrom 112 = .ok (.aload_n 1, 1) := by decide +kernel
theorem dX6_copyFrom_113 : decode cX6_copyFrom 113 = .ok (.getfield 30, 3) := by decide +kernel
theorem dX6_copyFrom_116 : decode cX6_copyFrom 116 = .ok (.iload_n 2, 1) := by decide +kernel
theorem dX6_copyFrom_117 : decode cX6_copyFrom 117 = .ok (.baload, 1) := by decide +kernel
theorem dX6_copyFrom_118 : decode cX6_copyFrom 118 = .ok (.bastore, 1) := by decide +kernel
theorem dX6_copyFrom_119 : decode cX6_copyFrom 119 = .ok (.iinc 2 1, 3) := by decide +kernel
theorem dX6_copyFrom_122 : decode cX6_copyFrom 122 = .ok (.goto (-83), 3) := by decide +kernel
theorem dX6_copyFrom_125 : decode cX6_copyFrom 125 = .ok (.return_, 1) := by decide +kernel
theorem dX6_copyLawsAndDay_0 : decode cX6_copyLawsAndDay 0 = .ok (.iconst 0, 1) := by decide +kernel
theorem dX6_copyLawsAndDay_1 : decode cX6_copyLawsAndDay 1 = .ok (.istore_n 2, 1) := by decide +kernel
theorem dX6_copyLawsAndDay_2 : decode cX6_copyLawsAndDay 2 = .ok (.iload_n 2, 1) := by decide +kernel
theorem dX6_copyLawsAndDay_3 : decode cX6_copyLawsAndDay 3 = .ok (.iconst 4, 1) := by decide +kernel
theorem dX6_copyLawsAndDay_4 : decode cX6_copyLawsAndDay 4 = .ok (.if_icmp .ge 21, 3) := by decide +kernel
theorem dX6_copyLawsAndDay_7 : decode cX6_copyLawsAndDay 7 = .ok (.aload_n 0, 1) := by decide +kernel
theorem dX6_copyLawsAndDay_8 : decode cX6_copyLawsAndDay 8 = .ok (.getfield 9, 3) := by decide +kernel
theorem dX6_copyLawsAndDay_11 : decode cX6_copyLawsAndDay 11 = .ok (.iload_n 2, 1) := by decide +kernel
theorem dX6_copyLawsAndDay_12 : decode cX6_copyLawsAndDay 12 = .ok (.aload_n 1, 1) := by decide +kernel
theorem dX6_copyLawsAndDay_13 : decode cX6_copyLawsAndDay 13 = .ok (.getfield 9, 3) := by decide +kernel
theorem dX6_copyLawsAndDay_16 : decode cX6_copyLawsAndDay 16 = .ok (.iload_n 2, 1) := by decide +kernel
theorem dX6_copyLawsAndDay_17 : decode cX6_copyLawsAndDay 17 = .ok (.iaload, 1) := by decide +kernel
theorem dX6_copyLawsAndDay_18 : decode cX6_copyLawsAndDay 18 = .ok (.iastore, 1) := by decide +kernel
theorem dX6_copyLawsAndDay_19 : decode cX6_copyLawsAndDay 19 = .ok (.iinc 2 1, 3) := by decide +kernel
theorem dX6_copyLawsAndDay_22 : decode cX6_copyLawsAndDay 22 = .ok (.goto (-20), 3) := by decide +kernel
theorem dX6_copyLawsAndDay_25 : decode cX6_copyLawsAndDay 25 = .ok (.aload_n 0, 1) := by decide +kernel
theorem dX6_copyLawsAndDay_26 : decode cX6_copyLawsAndDay 26 = .ok (.aload_n 1, 1) := by decide +kernel
theorem dX6_copyLawsAndDay_27 : decode cX6_copyLawsAndDay 27 = .ok (.getfield 44, 3) := by decide +kernel
theorem dX6_copyLawsAndDay_30 : decode cX6_copyLawsAndDay 30 = .ok (.putfield 44, 3) := by decide +kernel
theorem dX6_copyLawsAndDay_33 : decode cX6_copyLawsAndDay 33 = .ok (.return_, 1) := by decide +kernel
theorem dX6_has_0 : decode cX6_has 0 = .ok (.iload_n 1, 1) := by decide +kernel
theorem dX6_has_1 : decode cX6_has 1 = .ok (.ifCond .lt 15, 3) := by decide +kernel
theorem dX6_has_4 : decode cX6_has 4 = .ok (.iload_n 1, 1) := by decide +kernel
theorem dX6_has_5 : decode cX6_has 5 = .ok (.aload_n 0, 1) := by decide +kernel
theorem dX6_has_6 : decode cX6_has 6 = .ok (.getfield 41, 3) := by decide +kernel
theorem dX6_has_9 : decode cX6_has 9 = .ok (.if_icmp .ge 7, 3) := by decide +kernel
theorem dX6_has_12 : decode cX6_has 12 = .ok (.iconst 1, 1) := by decide +kernel
theorem dX6_has_13 : decode cX6_has 13 = .ok (.goto 4, 3) := by decide +kernel
theorem dX6_has_16 : decode cX6_has 16 = .ok (.iconst 0, 1) := by decide +kernel
theorem dX6_has_17 : decode cX6_has 17 = .ok (.ireturn, 1) := by decide +kernel
set_option maxRecDepth 20000 in
theorem ggX6_add_X6_setAlone : GoodIn wsX6_add wsX6_setAlone := goodIn_r _ [10, 11, 12, 13, 14, 15, 16, 17, 18, 19, 20, 21, 22, 23, 24] (by decide +kernel) (by decide +kernel)
set_option maxRecDepth 20000 in
theorem gX6_add_X6_setAlone : GoodIn wsX6_add (wsV RX6 57 RX6 yX6_setAlone wsX6_setAlone) := goodIn_app (goodIn_of _ (by decide +kernel)) ggX6_add_X6_setAlone
theorem dX6_add_0 : decode cX6_add 0 = .ok (.aload_n 0, 1) := by decide +kernel
theorem dX6_add_1 : decode cX6_add 1 = .ok (.getfield 41, 3) := by decide +kernel
theorem dX6_add_4 : decode cX6_add 4 = .ok (.bipush 8, 2) := by decide +kernel
theorem dX6_add_6 : decode cX6_add 6 = .ok (.if_icmp .lt 4, 3) := by decide +kernel
theorem dX6_add_9 : decode cX6_add 9 = .ok (.return_, 1) := by decide +kernel
theorem dX6_add_10 : decode cX6_add 10 = .ok (.aload_n 0, 1) := by decide +kernel
theorem dX6_add_11 : decode cX6_add 11 = .ok (.getfield 15, 3) := by decide +kernel
theorem dX6_add_14 : decode cX6_add 14 = .ok (.aload_n 0, 1) := by decide +kernel
theorem dX6_add_15 : decode cX6_add 15 = .ok (.getfield 41, 3) := by decide +kernel
theorem dX6_add_18 : decode cX6_add 18 = .ok (.iload_n 1, 1) := by decide +kernel
theorem dX6_add_19 : decode cX6_add 19 = .ok (.iastore, 1) := by decide +kernel
theorem dX6_add_20 : decode cX6_add 20 = .ok (.aload_n 0, 1) := by decide +kernel
theorem dX6_add_21 : decode cX6_add 21 = .ok (.getfield 18, 3) := by decide +kernel
theorem dX6_add_24 : decode cX6_add 24 = .ok (.aload_n 0, 1) := by decide +kernel
theorem dX6_add_25 : decode cX6_add 25 = .ok (.getfield 41, 3) := by decide +kernel
theorem dX6_add_28 : decode cX6_add 28 = .ok (.iload_n 2, 1) := by decide +kernel
theorem dX6_add_29 : decode cX6_add 29 = .ok (.iastore, 1) := by decide +kernel
theorem dX6_add_30 : decode cX6_add 30 = .ok (.aload_n 0, 1) := by decide +kernel
theorem dX6_add_31 : decode cX6_add 31 = .ok (.getfield 21, 3) := by decide +kernel
theorem dX6_add_34 : decode cX6_add 34 = .ok (.aload_n 0, 1) := by decide +kernel
theorem dX6_add_35 : decode cX6_add 35 = .ok (.getfield 41, 3) := by decide +kernel
theorem dX6_add_38 : decode cX6_add 38 = .ok (.iload_n 3, 1) := by decide +kernel
theorem dX6_add_39 : decode cX6_add 39 = .ok (.iastore, 1) := by decide +kernel
theorem dX6_add_40 : decode cX6_add 40 = .ok (.aload_n 0, 1) := by decide +kernel
theorem dX6_add_41 : decode cX6_add 41 = .ok (.getfield 24, 3) := by decide +kernel
theorem dX6_add_44 : decode cX6_add 44 = .ok (.aload_n 0, 1) := by decide +kernel
theorem dX6_add_45 : decode cX6_add 45 = .ok (.getfield 41, 3) := by decide +kernel
theorem dX6_add_48 : decode cX6_add 48 = .ok (.iload 4, 2) := by decide +kernel
theorem dX6_add_50 : decode cX6_add 50 = .ok (.iastore, 1) := by decide +kernel
theorem dX6_add_51 : decode cX6_add 51 = .ok (.aload_n 0, 1) := by decide +kernel
theorem dX6_add_52 : decode cX6_add 52 = .ok (.aload_n 0, 1) := by decide +kernel
theorem dX6_add_53 : decode cX6_add 53 = .ok (.getfield 41, 3) := by decide +kernel
theorem dX6_add_56 : decode cX6_add 56 = .ok (.invokevirtual 57, 3) := by decide +kernel
theorem dX6_add_59 : decode cX6_add 59 = .ok (.aload_n 0, 1) := by decide +kernel
theorem dX6_add_60 : decode cX6_add 60 = .ok (.dup, 1) := by decide +kernel
theorem dX6_add_61 : decode cX6_add 61 = .ok (.getfield 41, 3) := by decide +kernel
theorem dX6_add_64 : decode cX6_add 64 = .ok (.iconst 1, 1) := by decide +kernel
theorem dX6_add_65 : decode cX6_add 65 = .ok (.iadd, 1) := by decide +kernel
theorem dX6_add_66 : decode cX6_add 66 = .ok (.putfield 41, 3) := by decide +kernel
theorem dX6_add_69 : decode cX6_add 69 = .ok (.return_, 1) := by decide +kernel
theorem dX6_setAlone_0 : decode cX6_setAlone 0 = .ok (.aload_n 0, 1) := by decide +kernel
theorem dX6_setAlone_1 : decode cX6_setAlone 1 = .ok (.getfield 27, 3) := by decide +kernel
theorem dX6_setAlone_4 : decode cX6_setAlone 4 = .ok (.iload_n 1, 1) := by decide +kernel
theorem dX6_setAlone_5 : decode cX6_setAlone 5 = .ok (.iconst (-1), 1) := by decide +kernel
theorem dX6_setAlone_6 : decode cX6_setAlone 6 = .ok (.iastore, 1) := by decide +kernel
theorem dX6_setAlone_7 : decode cX6_setAlone 7 = .ok (.aload_n 0, 1) := by decide +kernel
theorem dX6_setAlone_8 : decode cX6_setAlone 8 = .ok (.getfield 30, 3) := by decide +kernel
theorem dX6_setAlone_11 : decode cX6_setAlone 11 = .ok (.iload_n 1, 1) := by decide +kernel
theorem dX6_setAlone_12 : decode cX6_setAlone 12 = .ok (.iconst 1, 1) := by decide +kernel
theorem dX6_setAlone_13 : decode cX6_setAlone 13 = .ok (.bastore, 1) := by decide +kernel
theorem dX6_setAlone_14 : decode cX6_setAlone 14 = .ok (.return_, 1) := by decide +kernel
set_option maxRecDepth 20000 in
theorem ggX6_unjoin_X6_setAlone : GoodIn wsX6_unjoin wsX6_setAlone := goodIn_r _ [6, 1, 7, 13, 14, 15, 16, 17, 18, 19, 20, 21, 22, 23, 24] (by decide +kernel) (by decide +kernel)
set_option maxRecDepth 20000 in
theorem gX6_unjoin_X6_setAlone : GoodIn wsX6_unjoin (wsV RX6 57 RX6 yX6_setAlone wsX6_setAlone) := goodIn_app (goodIn_of _ (by decide +kernel)) ggX6_unjoin_X6_setAlone
set_option maxRecDepth 20000 in
theorem ggX6_unjoin_X6_has : GoodIn wsX6_unjoin wsX6_has := goodIn_r _ [11, 12, 13, 14, 15, 16, 17, 18, 19, 20, 21, 22, 23, 24] (by decide +kernel) (by decide +kernel)
set_option maxRecDepth 20000 in
theorem gX6_unjoin_X6_has : GoodIn wsX6_unjoin (wsV RX6 61 RX6 yX6_has wsX6_has) := goodIn_app (goodIn_of _ (by decide +kernel)) ggX6_unjoin_X6_has
theorem dX6_unjoin_0 : decode cX6_unjoin 0 = .ok (.aload_n 0, 1) := by decide +kernel
theorem dX6_unjoin_1 : decode cX6_unjoin 1 = .ok (.getfield 27, 3) := by decide +kernel
theorem dX6_unjoin_4 : decode cX6_unjoin 4 = .ok (.iload_n 1, 1) := by decide +kernel
theorem dX6_unjoin_5 : decode cX6_unjoin 5 = .ok (.iaload, 1) := by decide +kernel
theorem dX6_unjoin_6 : decode cX6_unjoin 6 = .ok (.istore_n 2, 1) := by decide +kernel
theorem dX6_unjoin_7 : decode cX6_unjoin 7 = .ok (.aload_n 0, 1) := by decide +kernel
theorem dX6_unjoin_8 : decode cX6_unjoin 8 = .ok (.iload_n 1, 1) := by decide +kernel
theorem dX6_unjoin_9 : decode cX6_unjoin 9 = .ok (.invokevirtual 57, 3) := by decide +kernel
theorem dX6_unjoin_12 : decode cX6_unjoin 12 = .ok (.aload_n 0, 1) := by decide +kernel
theorem dX6_unjoin_13 : decode cX6_unjoin 13 = .ok (.iload_n 2, 1) := by decide +kernel
theorem dX6_unjoin_14 : decode cX6_unjoin 14 = .ok (.invokevirtual 61, 3) := by decide +kernel
theorem dX6_unjoin_17 : decode cX6_unjoin 17 = .ok (.ifCond .eq 8, 3) := by decide +kernel
theorem dX6_unjoin_20 : decode cX6_unjoin 20 = .ok (.aload_n 0, 1) := by decide +kernel
theorem dX6_unjoin_21 : decode cX6_unjoin 21 = .ok (.iload_n 2, 1) := by decide +kernel
theorem dX6_unjoin_22 : decode cX6_unjoin 22 = .ok (.invokevirtual 57, 3) := by decide +kernel
theorem dX6_unjoin_25 : decode cX6_unjoin 25 = .ok (.return_, 1) := by decide +kernel
set_option maxRecDepth 20000 in
theorem ggX6_join_X6_unjoin : GoodIn wsX6_join wsX6_unjoin := goodIn_r _ [7, 1, 8, 9, 10, 6, 11, 2, 12, 13, 14, 15, 16, 17, 18, 19, 20, 21, 22, 23, 24, 25, 26, 27, 28] (by decide +kernel) (by decide +kernel)
set_option maxRecDepth 20000 in
theorem gX6_join_X6_unjoin : GoodIn wsX6_join (wsV RX6 65 RX6 yX6_unjoin wsX6_unjoin) := goodIn_app (goodIn_of _ (by decide +kernel)) ggX6_join_X6_unjoin
theorem dX6_join_0 : decode cX6_join 0 = .ok (.aload_n 0, 1) := by decide +kernel
theorem dX6_join_1 : decode cX6_join 1 = .ok (.iload_n 1, 1) := by decide +kernel
theorem dX6_join_2 : decode cX6_join 2 = .ok (.invokevirtual 65, 3) := by decide +kernel
theorem dX6_join_5 : decode cX6_join 5 = .ok (.aload_n 0, 1) := by decide +kernel
theorem dX6_join_6 : decode cX6_join 6 = .ok (.iload_n 2, 1) := by decide +kernel
theorem dX6_join_7 : decode cX6_join 7 = .ok (.invokevirtual 65, 3) := by decide +kernel
theorem dX6_join_10 : decode cX6_join 10 = .ok (.aload_n 0, 1) := by decide +kernel
theorem dX6_join_11 : decode cX6_join 11 = .ok (.getfield 27, 3) := by decide +kernel
theorem dX6_join_14 : decode cX6_join 14 = .ok (.iload_n 1, 1) := by decide +kernel
theorem dX6_join_15 : decode cX6_join 15 = .ok (.iload_n 2, 1) := by decide +kernel
theorem dX6_join_16 : decode cX6_join 16 = .ok (.iastore, 1) := by decide +kernel
theorem dX6_join_17 : decode cX6_join 17 = .ok (.aload_n 0, 1) := by decide +kernel
theorem dX6_join_18 : decode cX6_join 18 = .ok (.getfield 27, 3) := by decide +kernel
theorem dX6_join_21 : decode cX6_join 21 = .ok (.iload_n 2, 1) := by decide +kernel
theorem dX6_join_22 : decode cX6_join 22 = .ok (.iload_n 1, 1) := by decide +kernel
theorem dX6_join_23 : decode cX6_join 23 = .ok (.iastore, 1) := by decide +kernel
theorem dX6_join_24 : decode cX6_join 24 = .ok (.aload_n 0, 1) := by decide +kernel
theorem dX6_join_25 : decode cX6_join 25 = .ok (.getfield 30, 3) := by decide +kernel
theorem dX6_join_28 : decode cX6_join 28 = .ok (.iload_n 2, 1) := by decide +kernel
theorem dX6_join_29 : decode cX6_join 29 = .ok (.iconst 0, 1) := by decide +kernel
theorem dX6_join_30 : decode cX6_join 30 = .ok (.bastore, 1) := by decide +kernel
theorem dX6_join_31 : decode cX6_join 31 = .ok (.return_, 1) := by decide +kernel
theorem dX6_saysOf_0 : decode cX6_saysOf 0 = .ok (.aload_n 0, 1) := by decide +kernel
theorem dX6_saysOf_1 : decode cX6_saysOf 1 = .ok (.getfield 15, 3) := by decide +kernel
theorem dX6_saysOf_4 : decode cX6_saysOf 4 = .ok (.iload_n 1, 1) := by decide +kernel
theorem dX6_saysOf_5 : decode cX6_saysOf 5 = .ok (.iaload, 1) := by decide +kernel
theorem dX6_saysOf_6 : decode cX6_saysOf 6 = .ok (.tableswitch 130 1 5 #[34, 64, 48, 82, 110], 34) := by decide +kernel
theorem dX6_saysOf_40 : decode cX6_saysOf 40 = .ok (.aload_n 0, 1) := by decide +kernel
theorem dX6_saysOf_41 : decode cX6_saysOf 41 = .ok (.getfield 24, 3) := by decide +kernel
theorem dX6_saysOf_44 : decode cX6_saysOf 44 = .ok (.iload_n 1, 1) := by decide +kernel
theorem dX6_saysOf_45 : decode cX6_saysOf 45 = .ok (.iaload, 1) := by decide +kernel
theorem dX6_saysOf_46 : decode cX6_saysOf 46 = .ok (.aload_n 0, 1) := by decide +kernel
theorem dX6_saysOf_47 : decode cX6_saysOf 47 = .ok (.getfield 9, 3) := by decide +kernel
theorem dX6_saysOf_50 : decode cX6_saysOf 50 = .ok (.iconst 0, 1) := by decide +kernel
theorem dX6_saysOf_51 : decode cX6_saysOf 51 = .ok (.iaload, 1) := by decide +kernel
theorem dX6_saysOf_52 : decode cX6_saysOf 52 = .ok (.iadd, 1) := by decide +kernel
theorem dX6_saysOf_53 : decode cX6_saysOf 53 = .ok (.ireturn, 1) := by decide +kernel
theorem dX6_saysOf_54 : decode cX6_saysOf 54 = .ok (.iconst 2, 1) := by decide +kernel
theorem dX6_saysOf_55 : decode cX6_saysOf 55 = .ok (.aload_n 0, 1) := by decide +kernel
theorem dX6_saysOf_56 : decode cX6_saysOf 56 = .ok (.getfield 24, 3) := by decide +kernel
theorem dX6_saysOf_59 : decode cX6_saysOf 59 = .ok (.iload_n 1, 1) := by decide +kernel
theorem dX6_saysOf_60 : decode cX6_saysOf 60 = .ok (.iaload, 1) := by decide +kernel
theorem dX6_saysOf_61 : decode cX6_saysOf 61 = .ok (.aload_n 0, 1) := by decide +kernel
theorem dX6_saysOf_62 : decode cX6_saysOf 62 = .ok (.getfield 9, 3) := by decide +kernel
theorem dX6_saysOf_65 : decode cX6_saysOf 65 = .ok (.iconst 0, 1) := by decide +kernel
theorem dX6_saysOf_66 : decode cX6_saysOf 66 = .ok (.iaload, 1) := by decide +kernel
theorem dX6_saysOf_67 : decode cX6_saysOf 67 = .ok (.iadd, 1) := by decide +kernel
theorem dX6_saysOf_68 : decode cX6_saysOf 68 = .ok (.imul, 1) := by decide +kernel
theorem dX6_saysOf_69 : decode cX6_saysOf 69 = .ok (.ireturn, 1) := by decide +kernel
theorem dX6_saysOf_70 : decode cX6_saysOf 70 = .ok (.iconst 0, 1) := by decide +kernel
theorem dX6_saysOf_71 : decode cX6_saysOf 71 = .ok (.aload_n 0, 1) := by decide +kernel
theorem dX6_saysOf_72 : decode cX6_saysOf 72 = .ok (.getfield 24, 3) := by decide +kernel
theorem dX6_saysOf_75 : decode cX6_saysOf 75 = .ok (.iload_n 1, 1) := by decide +kernel
theorem dX6_saysOf_76 : decode cX6_saysOf 76 = .ok (.iaload, 1) := by decide +kernel
theorem dX6_saysOf_77 : decode cX6_saysOf 77 = .ok (.aload_n 0, 1) := by decide +kernel
theorem dX6_saysOf_78 : decode cX6_saysOf 78 = .ok (.getfield 9, 3) := by decide +kernel
theorem dX6_saysOf_81 : decode cX6_saysOf 81 = .ok (.iconst 1, 1) := by decide +kernel
theorem dX6_saysOf_82 : decode cX6_saysOf 82 = .ok (.iaload, 1) := by decide +kernel
theorem dX6_saysOf_83 : decode cX6_saysOf 83 = .ok (.isub, 1) := by decide +kernel
theorem dX6_saysOf_84 : decode cX6_saysOf 84 = .ok (.invokestatic 68, 3) := by decide +kernel
theorem dX6_saysOf_87 : decode cX6_saysOf 87 = .ok (.ireturn, 1) := by decide +kernel
theorem dX6_saysOf_88 : decode cX6_saysOf 88 = .ok (.iconst 0, 1) := by decide +kernel
theorem dX6_saysOf_89 : decode cX6_saysOf 89 = .ok (.aload_n 0, 1) := by decide +kernel
theorem dX6_saysOf_90 : decode cX6_saysOf 90 = .ok (.getfield 24, 3) := by decide +kernel
theorem dX6_saysOf_93 : decode cX6_saysOf 93 = .ok (.iload_n 1, 1) := by decide +kernel
theorem dX6_saysOf_94 : decode cX6_saysOf 94 = .ok (.iaload, 1) := by decide +kernel
theorem dX6_saysOf_95 : decode cX6_saysOf 95 = .ok (.aload_n 0, 1) := by decide +kernel
theorem dX6_saysOf_96 : decode cX6_saysOf 96 = .ok (.getfield 9, 3) := by decide +kernel
theorem dX6_saysOf_99 : decode cX6_saysOf 99 = .ok (.iconst 1, 1) := by decide +kernel
theorem dX6_saysOf_100 : decode cX6_saysOf 100 = .ok (.iaload, 1) := by decide +kernel
theorem dX6_saysOf_101 : decode cX6_saysOf 101 = .ok (.isub, 1) := by decide +kernel
theorem dX6_saysOf_102 : decode cX6_saysOf 102 = .ok (.invokestatic 68, 3) := by decide +kernel
theorem dX6_saysOf_105 : decode cX6_saysOf 105 = .ok (.aload_n 0, 1) := by decide +kernel
theorem dX6_saysOf_106 : decode cX6_saysOf 106 = .ok (.getfield 21, 3) := by decide +kernel
theorem dX6_saysOf_109 : decode cX6_saysOf 109 = .ok (.iload_n 1, 1) := by decide +kernel
theorem dX6_saysOf_110 : decode cX6_saysOf 110 = .ok (.iaload, 1) := by decide +kernel
theorem dX6_saysOf_111 : decode cX6_saysOf 111 = .ok (.bipush 10, 2) := by decide +kernel
theorem dX6_saysOf_113 : decode cX6_saysOf 113 = .ok (.idiv, 1) := by decide +kernel
theorem dX6_saysOf_114 : decode cX6_saysOf 114 = .ok (.iadd, 1) := by decide +kernel
theorem dX6_saysOf_115 : decode cX6_saysOf 115 = .ok (.ireturn, 1) := by decide +kernel
theorem dX6_saysOf_116 : decode cX6_saysOf 116 = .ok (.aload_n 0, 1) := by decide +kernel
theorem dX6_saysOf_117 : decode cX6_saysOf 117 = .ok (.getfield 44, 3) := by decide +kernel
theorem dX6_saysOf_120 : decode cX6_saysOf 120 = .ok (.iconst 2, 1) := by decide +kernel
theorem dX6_saysOf_121 : decode cX6_saysOf 121 = .ok (.irem, 1) := by decide +kernel
theorem dX6_saysOf_122 : decode cX6_saysOf 122 = .ok (.ifCond .ne 12, 3) := by decide +kernel
theorem dX6_saysOf_125 : decode cX6_saysOf 125 = .ok (.aload_n 0, 1) := by decide +kernel
theorem dX6_saysOf_126 : decode cX6_saysOf 126 = .ok (.getfield 24, 3) := by decide +kernel
theorem dX6_saysOf_129 : decode cX6_saysOf 129 = .ok (.iload_n 1, 1) := by decide +kernel
theorem dX6_saysOf_130 : decode cX6_saysOf 130 = .ok (.iaload, 1) := by decide +kernel
theorem dX6_saysOf_131 : decode cX6_saysOf 131 = .ok (.goto 4, 3) := by decide +kernel
theorem dX6_saysOf_134 : decode cX6_saysOf 134 = .ok (.iconst 1, 1) := by decide +kernel
theorem dX6_saysOf_135 : decode cX6_saysOf 135 = .ok (.ireturn, 1) := by decide +kernel
theorem dX6_saysOf_136 : decode cX6_saysOf 136 = .ok (.aload_n 0, 1) := by decide +kernel
theorem dX6_saysOf_137 : decode cX6_saysOf 137 = .ok (.getfield 24, 3) := by decide +kernel
theorem dX6_saysOf_140 : decode cX6_saysOf 140 = .ok (.iload_n 1, 1) := by decide +kernel
theorem dX6_saysOf_141 : decode cX6_saysOf 141 = .ok (.iaload, 1) := by decide +kernel
theorem dX6_saysOf_142 : decode cX6_saysOf 142 = .ok (.ireturn, 1) := by decide +kernel
theorem dX6_growsOf_0 : decode cX6_growsOf 0 = .ok (.aload_n 0, 1) := by decide +kernel
theorem dX6_growsOf_1 : decode cX6_growsOf 1 = .ok (.getfield 9, 3) := by decide +kernel
theorem dX6_growsOf_4 : decode cX6_growsOf 4 = .ok (.iconst 2, 1) := by decide +kernel
theorem dX6_growsOf_5 : decode cX6_growsOf 5 = .ok (.iaload, 1) := by decide +kernel
theorem dX6_growsOf_6 : decode cX6_growsOf 6 = .ok (.istore_n 2, 1) := by decide +kernel
theorem dX6_growsOf_7 : decode cX6_growsOf 7 = .ok (.aload_n 0, 1) := by decide +kernel
theorem dX6_growsOf_8 : decode cX6_growsOf 8 = .ok (.getfield 15, 3) := by decide +kernel
theorem dX6_growsOf_11 : decode cX6_growsOf 11 = .ok (.iload_n 1, 1) := by decide +kernel
theorem dX6_growsOf_12 : decode cX6_growsOf 12 = .ok (.iaload, 1) := by decide +kernel
theorem dX6_growsOf_13 : decode cX6_growsOf 13 = .ok (.tableswitch 69 1 5 #[35, 50, 39, 54, 60], 35) := by decide +kernel
theorem dX6_growsOf_48 : decode cX6_growsOf 48 = .ok (.iload_n 2, 1) := by decide +kernel
theorem dX6_growsOf_49 : decode cX6_growsOf 49 = .ok (.iconst 1, 1) := by decide +kernel
theorem dX6_growsOf_50 : decode cX6_growsOf 50 = .ok (.iadd, 1) := by decide +kernel
theorem dX6_growsOf_51 : decode cX6_growsOf 51 = .ok (.ireturn, 1) := by decide +kernel
theorem dX6_growsOf_52 : decode cX6_growsOf 52 = .ok (.iload_n 2, 1) := by decide +kernel
theorem dX6_growsOf_53 : decode cX6_growsOf 53 = .ok (.iconst 1, 1) := by decide +kernel
theorem dX6_growsOf_54 : decode cX6_growsOf 54 = .ok (.iadd, 1) := by decide +kernel
theorem dX6_growsOf_55 : decode cX6_growsOf 55 = .ok (.aload_n 0, 1) := by decide +kernel
theorem dX6_growsOf_56 : decode cX6_growsOf 56 = .ok (.getfield 9, 3) := by decide +kernel
theorem dX6_growsOf_59 : decode cX6_growsOf 59 = .ok (.iconst 0, 1) := by decide +kernel
theorem dX6_growsOf_60 : decode cX6_growsOf 60 = .ok (.iaload, 1) := by decide +kernel
theorem dX6_growsOf_61 : decode cX6_growsOf 61 = .ok (.iadd, 1) := by decide +kernel
theorem dX6_growsOf_62 : decode cX6_growsOf 62 = .ok (.ireturn, 1) := by decide +kernel
theorem dX6_growsOf_63 : decode cX6_growsOf 63 = .ok (.iload_n 2, 1) := by decide +kernel
theorem dX6_growsOf_64 : decode cX6_growsOf 64 = .ok (.iconst 2, 1) := by decide +kernel
theorem dX6_growsOf_65 : decode cX6_growsOf 65 = .ok (.idiv, 1) := by decide +kernel
theorem dX6_growsOf_66 : decode cX6_growsOf 66 = .ok (.ireturn, 1) := by decide +kernel
theorem dX6_growsOf_67 : decode cX6_growsOf 67 = .ok (.iload_n 2, 1) := by decide +kernel
theorem dX6_growsOf_68 : decode cX6_growsOf 68 = .ok (.iconst 2, 1) := by decide +kernel
theorem dX6_growsOf_69 : decode cX6_growsOf 69 = .ok (.idiv, 1) := by decide +kernel
theorem dX6_growsOf_70 : decode cX6_growsOf 70 = .ok (.iconst 2, 1) := by decide +kernel
theorem dX6_growsOf_71 : decode cX6_growsOf 71 = .ok (.isub, 1) := by decide +kernel
theorem dX6_growsOf_72 : decode cX6_growsOf 72 = .ok (.ireturn, 1) := by decide +kernel
theorem dX6_growsOf_73 : decode cX6_growsOf 73 = .ok (.iload_n 2, 1) := by decide +kernel
theorem dX6_growsOf_74 : decode cX6_growsOf 74 = .ok (.aload_n 0, 1) := by decide +kernel
theorem dX6_growsOf_75 : decode cX6_growsOf 75 = .ok (.getfield 24, 3) := by decide +kernel
theorem dX6_growsOf_78 : decode cX6_growsOf 78 = .ok (.iload_n 1, 1) := by decide +kernel
theorem dX6_growsOf_79 : decode cX6_growsOf 79 = .ok (.iaload, 1) := by decide +kernel
theorem dX6_growsOf_80 : decode cX6_growsOf 80 = .ok (.iadd, 1) := by decide +kernel
theorem dX6_growsOf_81 : decode cX6_growsOf 81 = .ok (.ireturn, 1) := by decide +kernel
theorem dX6_growsOf_82 : decode cX6_growsOf 82 = .ok (.iload_n 2, 1) := by decide +kernel
theorem dX6_growsOf_83 : decode cX6_growsOf 83 = .ok (.ireturn, 1) := by decide +kernel
theorem dX6_savesOf_0 : decode cX6_savesOf 0 = .ok (.aload_n 0, 1) := by decide +kernel
theorem dX6_savesOf_1 : decode cX6_savesOf 1 = .ok (.getfield 15, 3) := by decide +kernel
theorem dX6_savesOf_4 : decode cX6_savesOf 4 = .ok (.iload_n 1, 1) := by decide +kernel
theorem dX6_savesOf_5 : decode cX6_savesOf 5 = .ok (.iaload, 1) := by decide +kernel
theorem dX6_savesOf_6 : decode cX6_savesOf 6 = .ok (.tableswitch 74 1 5 #[34, 38, 36, 47, 58], 34) := by decide +kernel
theorem dX6_savesOf_40 : decode cX6_savesOf 40 = .ok (.iconst 0, 1) := by decide +kernel
theorem dX6_savesOf_41 : decode cX6_savesOf 41 = .ok (.ireturn, 1) := by decide +kernel
theorem dX6_savesOf_42 : decode cX6_savesOf 42 = .ok (.iconst 0, 1) := by decide +kernel
theorem dX6_savesOf_43 : decode cX6_savesOf 43 = .ok (.ireturn, 1) := by decide +kernel
theorem dX6_savesOf_44 : decode cX6_savesOf 44 = .ok (.iconst 1, 1) := by decide +kernel
theorem dX6_savesOf_45 : decode cX6_savesOf 45 = .ok (.aload_n 0, 1) := by decide +kernel
theorem dX6_savesOf_46 : decode cX6_savesOf 46 = .ok (.getfield 9, 3) := by decide +kernel
theorem dX6_savesOf_49 : decode cX6_savesOf 49 = .ok (.iconst 1, 1) := by decide +kernel
theorem dX6_savesOf_50 : decode cX6_savesOf 50 = .ok (.iaload, 1) := by decide +kernel
theorem dX6_savesOf_51 : decode cX6_savesOf 51 = .ok (.iadd, 1) := by decide +kernel
theorem dX6_savesOf_52 : decode cX6_savesOf 52 = .ok (.ireturn, 1) := by decide +kernel
theorem dX6_savesOf_53 : decode cX6_savesOf 53 = .ok (.iconst 3, 1) := by decide +kernel
theorem dX6_savesOf_54 : decode cX6_savesOf 54 = .ok (.iconst 1, 1) := by decide +kernel
theorem dX6_savesOf_55 : decode cX6_savesOf 55 = .ok (.aload_n 0, 1) := by decide +kernel
theorem dX6_savesOf_56 : decode cX6_savesOf 56 = .ok (.getfield 9, 3) := by decide +kernel
theorem dX6_savesOf_59 : decode cX6_savesOf 59 = .ok (.iconst 1, 1) := by decide +kernel
theorem dX6_savesOf_60 : decode cX6_savesOf 60 = .ok (.iaload, 1) := by decide +kernel
theorem dX6_savesOf_61 : decode cX6_savesOf 61 = .ok (.iadd, 1) := by decide +kernel
theorem dX6_savesOf_62 : decode cX6_savesOf 62 = .ok (.imul, 1) := by decide +kernel
theorem dX6_savesOf_63 : decode cX6_savesOf 63 = .ok (.ireturn, 1) := by decide +kernel
theorem dX6_savesOf_64 : decode cX6_savesOf 64 = .ok (.aload_n 0, 1) := by decide +kernel
theorem dX6_savesOf_65 : decode cX6_savesOf 65 = .ok (.getfield 44, 3) := by decide +kernel
theorem dX6_savesOf_68 : decode cX6_savesOf 68 = .ok (.bipush 7, 2) := by decide +kernel
theorem dX6_savesOf_70 : decode cX6_savesOf 70 = .ok (.irem, 1) := by decide +kernel
theorem dX6_savesOf_71 : decode cX6_savesOf 71 = .ok (.ifCond .ne 7, 3) := by decide +kernel
theorem dX6_savesOf_74 : decode cX6_savesOf 74 = .ok (.iconst 1, 1) := by decide +kernel
theorem dX6_savesOf_75 : decode cX6_savesOf 75 = .ok (.goto 4, 3) := by decide +kernel
theorem dX6_savesOf_78 : decode cX6_savesOf 78 = .ok (.iconst 0, 1) := by decide +kernel
theorem dX6_savesOf_79 : decode cX6_savesOf 79 = .ok (.ireturn, 1) := by decide +kernel
theorem dX6_savesOf_80 : decode cX6_savesOf 80 = .ok (.iconst 1, 1) := by decide +kernel
theorem dX6_savesOf_81 : decode cX6_savesOf 81 = .ok (.ireturn, 1) := by decide +kernel
set_option maxRecDepth 20000 in
theorem ggX6_pass_X6_passDay : GoodIn wsX6_pass wsX6_passDay := goodIn_r _ [5, 6, 7, 8, 9, 10, 11, 12, 13, 14, 15, 4, 16, 17, 18, 19, 20, 21, 22, 23, 24, 25, 26, 27, 28, 29, 30, 31, 32, 33, 34, 35, 36, 37, 38, 39, 40, 41, 42, 43, 44, 45, 46, 47, 48, 49, 50, 51, 52, 53, 54, 55, 56, 57, 58, 59, 60, 61, 62, 63, 64, 65, 66, 67, 68] (by decide +kernel) (by decide +kernel)
set_option maxRecDepth 20000 in
theorem gX6_pass_X6_passDay : GoodIn wsX6_pass (wsV RX6 74 RX6 yX6_passDay wsX6_passDay) := goodIn_app (goodIn_of _ (by decide +kernel)) ggX6_pass_X6_passDay
theorem dX6_pass_0 : decode cX6_pass 0 = .ok (.iconst 0, 1) := by decide +kernel
theorem dX6_pass_1 : decode cX6_pass 1 = .ok (.istore_n 2, 1) := by decide +kernel
theorem dX6_pass_2 : decode cX6_pass 2 = .ok (.iconst 0, 1) := by decide +kernel
theorem dX6_pass_3 : decode cX6_pass 3 = .ok (.istore_n 3, 1) := by decide +kernel
theorem dX6_pass_4 : decode cX6_pass 4 = .ok (.iload_n 3, 1) := by decide +kernel
theorem dX6_pass_5 : decode cX6_pass 5 = .ok (.iload_n 1, 1) := by decide +kernel
theorem dX6_pass_6 : decode cX6_pass 6 = .ok (.if_icmp .ge 16, 3) := by decide +kernel
theorem dX6_pass_9 : decode cX6_pass 9 = .ok (.iload_n 2, 1) := by decide +kernel
theorem dX6_pass_10 : decode cX6_pass 10 = .ok (.aload_n 0, 1) := by decide +kernel
theorem dX6_pass_11 : decode cX6_pass 11 = .ok (.invokevirtual 74, 3) := by decide +kernel
theorem dX6_pass_14 : decode cX6_pass 14 = .ok (.iadd, 1) := by decide +kernel
theorem dX6_pass_15 : decode cX6_pass 15 = .ok (.istore_n 2, 1) := by decide +kernel
theorem dX6_pass_16 : decode cX6_pass 16 = .ok (.iinc 3 1, 3) := by decide +kernel
theorem dX6_pass_19 : decode cX6_pass 19 = .ok (.goto (-15), 3) := by decide +kernel
theorem dX6_pass_22 : decode cX6_pass 22 = .ok (.iload_n 2, 1) := by decide +kernel
theorem dX6_pass_23 : decode cX6_pass 23 = .ok (.ireturn, 1) := by decide +kernel
set_option maxRecDepth 20000 in
theorem ggX6_passDay_X6_growAll : GoodIn wsX6_passDay wsX6_growAll := goodIn_r _ [12, 13, 14, 15, 16, 5, 17, 1, 18, 3, 4, 6, 19, 20, 21, 11, 22, 23, 24, 25, 53, 54, 55, 56, 57, 58, 59, 60, 61, 62, 63, 64] (by decide +kernel) (by decide +kernel)
set_option maxRecDepth 20000 in
theorem gX6_passDay_X6_growAll : GoodIn wsX6_passDay (wsV RX6 78 RX6 yX6_growAll wsX6_growAll) := goodIn_app (goodIn_of _ (by decide +kernel)) ggX6_passDay_X6_growAll
set_option maxRecDepth 20000 in
theorem ggX6_passDay_X6_sayAll : GoodIn wsX6_passDay wsX6_sayAll := goodIn_r _ [29, 13, 30, 31, 14, 3, 4, 5, 6, 32, 33, 34, 11, 35, 36, 37, 38, 39, 24, 25, 23, 15, 16, 17, 40, 7, 53, 54, 55, 56, 57, 58, 59, 60, 61, 62, 63, 64] (by decide +kernel) (by decide +kernel)
set_option maxRecDepth 20000 in
theorem gX6_passDay_X6_sayAll : GoodIn wsX6_passDay (wsV RX6 81 RX6 yX6_sayAll wsX6_sayAll) := goodIn_app (goodIn_of _ (by decide +kernel)) ggX6_passDay_X6_sayAll
set_option maxRecDepth 20000 in
theorem ggX6_passDay_X6_saveAll : GoodIn wsX6_passDay wsX6_saveAll := goodIn_r _ [44, 13, 30, 14, 40, 3, 4, 5, 6, 45, 46, 47, 11, 48, 24, 23, 7, 53, 54, 55, 56, 57, 58, 59, 60, 61, 62, 63, 64] (by decide +kernel) (by decide +kernel)
set_option maxRecDepth 20000 in
theorem gX6_passDay_X6_saveAll : GoodIn wsX6_passDay (wsV RX6 84 RX6 yX6_saveAll wsX6_saveAll) := goodIn_app (goodIn_of _ (by decide +kernel)) ggX6_passDay_X6_saveAll
set_option maxRecDepth 20000 in
theorem ggX6_passDay_X6_changeOver : GoodIn wsX6_passDay wsX6_changeOver := goodIn_r _ [52, 13, 31, 30, 53, 54, 55, 56, 57, 58, 59, 60, 61, 62, 63, 64] (by decide +kernel) (by decide +kernel)
set_option maxRecDepth 20000 in
theorem gX6_passDay_X6_changeOver : GoodIn wsX6_passDay (wsV RX6 87 RX6 yX6_changeOver wsX6_changeOver) := goodIn_app (goodIn_of _ (by decide +kernel)) ggX6_passDay_X6_changeOver
theorem dX6_passDay_0 : decode cX6_passDay 0 = .ok (.aload_n 0, 1) := by decide +kernel
theorem dX6_passDay_1 : decode cX6_passDay 1 = .ok (.invokevirtual 78, 3) := by decide +kernel
theorem dX6_passDay_4 : decode cX6_passDay 4 = .ok (.aload_n 0, 1) := by decide +kernel
theorem dX6_passDay_5 : decode cX6_passDay 5 = .ok (.invokevirtual 81, 3) := by decide +kernel
theorem dX6_passDay_8 : decode cX6_passDay 8 = .ok (.istore_n 1, 1) := by decide +kernel
theorem dX6_passDay_9 : decode cX6_passDay 9 = .ok (.aload_n 0, 1) := by decide +kernel
theorem dX6_passDay_10 : decode cX6_passDay 10 = .ok (.invokevirtual 84, 3) := by decide +kernel
theorem dX6_passDay_13 : decode cX6_passDay 13 = .ok (.aload_n 0, 1) := by decide +kernel
theorem dX6_passDay_14 : decode cX6_passDay 14 = .ok (.invokevirtual 87, 3) := by decide +kernel
theorem dX6_passDay_17 : decode cX6_passDay 17 = .ok (.aload_n 0, 1) := by decide +kernel
theorem dX6_passDay_18 : decode cX6_passDay 18 = .ok (.ldc 90, 2) := by decide +kernel
theorem dX6_passDay_20 : decode cX6_passDay 20 = .ok (.aload_n 0, 1) := by decide +kernel
theorem dX6_passDay_21 : decode cX6_passDay 21 = .ok (.getfield 47, 3) := by decide +kernel
theorem dX6_passDay_24 : decode cX6_passDay 24 = .ok (.iload_n 1, 1) := by decide +kernel
theorem dX6_passDay_25 : decode cX6_passDay 25 = .ok (.iadd, 1) := by decide +kernel
theorem dX6_passDay_26 : decode cX6_passDay 26 = .ok (.invokestatic 91, 3) := by decide +kernel
theorem dX6_passDay_29 : decode cX6_passDay 29 = .ok (.putfield 47, 3) := by decide +kernel
theorem dX6_passDay_32 : decode cX6_passDay 32 = .ok (.aload_n 0, 1) := by decide +kernel
theorem dX6_passDay_33 : decode cX6_passDay 33 = .ok (.dup, 1) := by decide +kernel
theorem dX6_passDay_34 : decode cX6_passDay 34 = .ok (.getfield 44, 3) := by decide +kernel
theorem dX6_passDay_37 : decode cX6_passDay 37 = .ok (.iconst 1, 1) := by decide +kernel
theorem dX6_passDay_38 : decode cX6_passDay 38 = .ok (.iadd, 1) := by decide +kernel
theorem dX6_passDay_39 : decode cX6_passDay 39 = .ok (.putfield 44, 3) := by decide +kernel
theorem dX6_passDay_42 : decode cX6_passDay 42 = .ok (.iload_n 1, 1) := by decide +kernel
theorem dX6_passDay_43 : decode cX6_passDay 43 = .ok (.ireturn, 1) := by decide +kernel
set_option maxRecDepth 20000 in
theorem ggX6_growAll_X6_growsOf : GoodIn wsX6_growAll wsX6_growsOf := goodIn_r _ [16, 17, 18, 19, 20, 21, 22, 23, 24, 25, 26, 27, 28, 29, 30, 31] (by decide +kernel) (by decide +kernel)
set_option maxRecDepth 20000 in
theorem gX6_growAll_X6_growsOf : GoodIn wsX6_growAll (wsV RX6 94 RX6 yX6_growsOf wsX6_growsOf) := goodIn_app (goodIn_of _ (by decide +kernel)) ggX6_growAll_X6_growsOf
theorem dX6_growAll_0 : decode cX6_growAll 0 = .ok (.iconst 0, 1) := by decide +kernel
theorem dX6_growAll_1 : decode cX6_growAll 1 = .ok (.istore_n 1, 1) := by decide +kernel
theorem dX6_growAll_2 : decode cX6_growAll 2 = .ok (.iload_n 1, 1) := by decide +kernel
theorem dX6_growAll_3 : decode cX6_growAll 3 = .ok (.aload_n 0, 1) := by decide +kernel
theorem dX6_growAll_4 : decode cX6_growAll 4 = .ok (.getfield 41, 3) := by decide +kernel
theorem dX6_growAll_7 : decode cX6_growAll 7 = .ok (.if_icmp .ge 59, 3) := by decide +kernel
theorem dX6_growAll_10 : decode cX6_growAll 10 = .ok (.iconst 0, 1) := by decide +kernel
theorem dX6_growAll_11 : decode cX6_growAll 11 = .ok (.aload_n 0, 1) := by decide +kernel
theorem dX6_growAll_12 : decode cX6_growAll 12 = .ok (.getfield 18, 3) := by decide +kernel
theorem dX6_growAll_15 : decode cX6_growAll 15 = .ok (.iload_n 1, 1) := by decide +kernel
theorem dX6_growAll_16 : decode cX6_growAll 16 = .ok (.iaload, 1) := by decide +kernel
theorem dX6_growAll_17 : decode cX6_growAll 17 = .ok (.aload_n 0, 1) := by decide +kernel
theorem dX6_growAll_18 : decode cX6_growAll 18 = .ok (.iload_n 1, 1) := by decide +kernel
theorem dX6_growAll_19 : decode cX6_growAll 19 = .ok (.invokevirtual 94, 3) := by decide +kernel
theorem dX6_growAll_22 : decode cX6_growAll 22 = .ok (.iadd, 1) := by decide +kernel
theorem dX6_growAll_23 : decode cX6_growAll 23 = .ok (.invokestatic 68, 3) := by decide +kernel
theorem dX6_growAll_26 : decode cX6_growAll 26 = .ok (.istore_n 2, 1) := by decide +kernel
theorem dX6_growAll_27 : decode cX6_growAll 27 = .ok (.iconst 0, 1) := by decide +kernel
theorem dX6_growAll_28 : decode cX6_growAll 28 = .ok (.iload_n 2, 1) := by decide +kernel
theorem dX6_growAll_29 : decode cX6_growAll 29 = .ok (.bipush 99, 2) := by decide +kernel
theorem dX6_growAll_31 : decode cX6_growAll 31 = .ok (.isub, 1) := by decide +kernel
theorem dX6_growAll_32 : decode cX6_growAll 32 = .ok (.invokestatic 68, 3) := by decide +kernel
theorem dX6_growAll_35 : decode cX6_growAll 35 = .ok (.istore_n 3, 1) := by decide +kernel
theorem dX6_growAll_36 : decode cX6_growAll 36 = .ok (.aload_n 0, 1) := by decide +kernel
theorem dX6_growAll_37 : decode cX6_growAll 37 = .ok (.getfield 18, 3) := by decide +kernel
theorem dX6_growAll_40 : decode cX6_growAll 40 = .ok (.iload_n 1, 1) := by decide +kernel
theorem dX6_growAll_41 : decode cX6_growAll 41 = .ok (.iload_n 2, 1) := by decide +kernel
theorem dX6_growAll_42 : decode cX6_growAll 42 = .ok (.iload_n 3, 1) := by decide +kernel
theorem dX6_growAll_43 : decode cX6_growAll 43 = .ok (.isub, 1) := by decide +kernel
theorem dX6_growAll_44 : decode cX6_growAll 44 = .ok (.iastore, 1) := by decide +kernel
theorem dX6_growAll_45 : decode cX6_growAll 45 = .ok (.aload_n 0, 1) := by decide +kernel
theorem dX6_growAll_46 : decode cX6_growAll 46 = .ok (.ldc 90, 2) := by decide +kernel
theorem dX6_growAll_48 : decode cX6_growAll 48 = .ok (.aload_n 0, 1) := by decide +kernel
theorem dX6_growAll_49 : decode cX6_growAll 49 = .ok (.getfield 50, 3) := by decide +kernel
theorem dX6_growAll_52 : decode cX6_growAll 52 = .ok (.iload_n 3, 1) := by decide +kernel
theorem dX6_growAll_53 : decode cX6_growAll 53 = .ok (.iadd, 1) := by decide +kernel
theorem dX6_growAll_54 : decode cX6_growAll 54 = .ok (.invokestatic 91, 3) := by decide +kernel
theorem dX6_growAll_57 : decode cX6_growAll 57 = .ok (.putfield 50, 3) := by decide +kernel
theorem dX6_growAll_60 : decode cX6_growAll 60 = .ok (.iinc 1 1, 3) := by decide +kernel
theorem dX6_growAll_63 : decode cX6_growAll 63 = .ok (.goto (-61), 3) := by decide +kernel
theorem dX6_growAll_66 : decode cX6_growAll 66 = .ok (.return_, 1) := by decide +kernel
set_option maxRecDepth 20000 in
theorem ggX6_sayAll_X6_has : GoodIn wsX6_sayAll wsX6_has := goodIn_r _ [13, 1, 26, 27, 28, 29, 30, 31, 32, 33, 34, 35, 36, 37] (by decide +kernel) (by decide +kernel)
set_option maxRecDepth 20000 in
theorem gX6_sayAll_X6_has : GoodIn wsX6_sayAll (wsV RX6 61 RX6 yX6_has wsX6_has) := goodIn_app (goodIn_of _ (by decide +kernel)) ggX6_sayAll_X6_has
set_option maxRecDepth 20000 in
theorem ggX6_sayAll_X6_saysOf : GoodIn wsX6_sayAll wsX6_saysOf := goodIn_r _ [17, 18, 19, 20, 21, 22, 7, 23, 24, 25, 26, 27, 28, 29, 30, 31, 32, 33, 34, 35, 36, 37] (by decide +kernel) (by decide +kernel)
set_option maxRecDepth 20000 in
theorem gX6_sayAll_X6_saysOf : GoodIn wsX6_sayAll (wsV RX6 98 RX6 yX6_saysOf wsX6_saysOf) := goodIn_app (goodIn_of _ (by decide +kernel)) ggX6_sayAll_X6_saysOf
theorem dX6_sayAll_0 : decode cX6_sayAll 0 = .ok (.iconst 0, 1) := by decide +kernel
theorem dX6_sayAll_1 : decode cX6_sayAll 1 = .ok (.istore_n 1, 1) := by decide +kernel
theorem dX6_sayAll_2 : decode cX6_sayAll 2 = .ok (.iconst 0, 1) := by decide +kernel
theorem dX6_sayAll_3 : decode cX6_sayAll 3 = .ok (.istore_n 2, 1) := by decide +kernel
theorem dX6_sayAll_4 : decode cX6_sayAll 4 = .ok (.iload_n 2, 1) := by decide +kernel
theorem dX6_sayAll_5 : decode cX6_sayAll 5 = .ok (.aload_n 0, 1) := by decide +kernel
theorem dX6_sayAll_6 : decode cX6_sayAll 6 = .ok (.getfield 41, 3) := by decide +kernel
theorem dX6_sayAll_9 : decode cX6_sayAll 9 = .ok (.if_icmp .ge 119, 3) := by decide +kernel
theorem dX6_sayAll_12 : decode cX6_sayAll 12 = .ok (.aload_n 0, 1) := by decide +kernel
theorem dX6_sayAll_13 : decode cX6_sayAll 13 = .ok (.getfield 30, 3) := by decide +kernel
theorem dX6_sayAll_16 : decode cX6_sayAll 16 = .ok (.iload_n 2, 1) := by decide +kernel
theorem dX6_sayAll_17 : decode cX6_sayAll 17 = .ok (.baload, 1) := by decide +kernel
theorem dX6_sayAll_18 : decode cX6_sayAll 18 = .ok (.ifCond .eq 104, 3) := by decide +kernel
theorem dX6_sayAll_21 : decode cX6_sayAll 21 = .ok (.aload_n 0, 1) := by decide +kernel
theorem dX6_sayAll_22 : decode cX6_sayAll 22 = .ok (.getfield 27, 3) := by decide +kernel
theorem dX6_sayAll_25 : decode cX6_sayAll 25 = .ok (.iload_n 2, 1) := by decide +kernel
theorem dX6_sayAll_26 : decode cX6_sayAll 26 = .ok (.iaload, 1) := by decide +kernel
theorem dX6_sayAll_27 : decode cX6_sayAll 27 = .ok (.istore_n 3, 1) := by decide +kernel
theorem dX6_sayAll_28 : decode cX6_sayAll 28 = .ok (.aload_n 0, 1) := by decide +kernel
theorem dX6_sayAll_29 : decode cX6_sayAll 29 = .ok (.iload_n 3, 1) := by decide +kernel
theorem dX6_sayAll_30 : decode cX6_sayAll 30 = .ok (.invokevirtual 61, 3) := by decide +kernel
theorem dX6_sayAll_33 : decode cX6_sayAll 33 = .ok (.ifCond .eq 13, 3) := by decide +kernel
theorem dX6_sayAll_36 : decode cX6_sayAll 36 = .ok (.iconst 2, 1) := by decide +kernel
theorem dX6_sayAll_37 : decode cX6_sayAll 37 = .ok (.aload_n 0, 1) := by decide +kernel
theorem dX6_sayAll_38 : decode cX6_sayAll 38 = .ok (.iload_n 2, 1) := by decide +kernel
theorem dX6_sayAll_39 : decode cX6_sayAll 39 = .ok (.invokevirtual 98, 3) := by decide +kernel
theorem dX6_sayAll_42 : decode cX6_sayAll 42 = .ok (.imul, 1) := by decide +kernel
theorem dX6_sayAll_43 : decode cX6_sayAll 43 = .ok (.goto 8, 3) := by decide +kernel
theorem dX6_sayAll_46 : decode cX6_sayAll 46 = .ok (.aload_n 0, 1) := by decide +kernel
theorem dX6_sayAll_47 : decode cX6_sayAll 47 = .ok (.iload_n 2, 1) := by decide +kernel
theorem dX6_sayAll_48 : decode cX6_sayAll 48 = .ok (.invokevirtual 98, 3) := by decide +kernel
theorem dX6_sayAll_51 : decode cX6_sayAll 51 = .ok (.istore 4, 2) := by decide +kernel
theorem dX6_sayAll_53 : decode cX6_sayAll 53 = .ok (.iload 4, 2) := by decide +kernel
theorem dX6_sayAll_55 : decode cX6_sayAll 55 = .ok (.aload_n 0, 1) := by decide +kernel
theorem dX6_sayAll_56 : decode cX6_sayAll 56 = .ok (.getfield 18, 3) := by decide +kernel
theorem dX6_sayAll_59 : decode cX6_sayAll 59 = .ok (.iload_n 2, 1) := by decide +kernel
theorem dX6_sayAll_60 : decode cX6_sayAll 60 = .ok (.iaload, 1) := by decide +kernel
theorem dX6_sayAll_61 : decode cX6_sayAll 61 = .ok (.invokestatic 91, 3) := by decide +kernel
theorem dX6_sayAll_64 : decode cX6_sayAll 64 = .ok (.istore 5, 2) := by decide +kernel
theorem dX6_sayAll_66 : decode cX6_sayAll 66 = .ok (.aload_n 0, 1) := by decide +kernel
theorem dX6_sayAll_67 : decode cX6_sayAll 67 = .ok (.getfield 18, 3) := by decide +kernel
theorem dX6_sayAll_70 : decode cX6_sayAll 70 = .ok (.iload_n 2, 1) := by decide +kernel
theorem dX6_sayAll_71 : decode cX6_sayAll 71 = .ok (.dup2, 1) := by decide +kernel
theorem dX6_sayAll_72 : decode cX6_sayAll 72 = .ok (.iaload, 1) := by decide +kernel
theorem dX6_sayAll_73 : decode cX6_sayAll 73 = .ok (.iload 5, 2) := by decide +kernel
theorem dX6_sayAll_75 : decode cX6_sayAll 75 = .ok (.isub, 1) := by decide +kernel
theorem dX6_sayAll_76 : decode cX6_sayAll 76 = .ok (.iastore, 1) := by decide +kernel
theorem dX6_sayAll_77 : decode cX6_sayAll 77 = .ok (.iload_n 1, 1) := by decide +kernel
theorem dX6_sayAll_78 : decode cX6_sayAll 78 = .ok (.iload 5, 2) := by decide +kernel
theorem dX6_sayAll_80 : decode cX6_sayAll 80 = .ok (.iadd, 1) := by decide +kernel
theorem dX6_sayAll_81 : decode cX6_sayAll 81 = .ok (.istore_n 1, 1) := by decide +kernel
theorem dX6_sayAll_82 : decode cX6_sayAll 82 = .ok (.aload_n 0, 1) := by decide +kernel
theorem dX6_sayAll_83 : decode cX6_sayAll 83 = .ok (.iload_n 3, 1) := by decide +kernel
theorem dX6_sayAll_84 : decode cX6_sayAll 84 = .ok (.invokevirtual 61, 3) := by decide +kernel
theorem dX6_sayAll_87 : decode cX6_sayAll 87 = .ok (.ifCond .eq 35, 3) := by decide +kernel
theorem dX6_sayAll_90 : decode cX6_sayAll 90 = .ok (.iload 4, 2) := by decide +kernel
theorem dX6_sayAll_92 : decode cX6_sayAll 92 = .ok (.iload 5, 2) := by decide +kernel
theorem dX6_sayAll_94 : decode cX6_sayAll 94 = .ok (.isub, 1) := by decide +kernel
theorem dX6_sayAll_95 : decode cX6_sayAll 95 = .ok (.aload_n 0, 1) := by decide +kernel
theorem dX6_sayAll_96 : decode cX6_sayAll 96 = .ok (.getfield 18, 3) := by decide +kernel
theorem dX6_sayAll_99 : decode cX6_sayAll 99 = .ok (.iload_n 3, 1) := by decide +kernel
theorem dX6_sayAll_100 : decode cX6_sayAll 100 = .ok (.iaload, 1) := by decide +kernel
theorem dX6_sayAll_101 : decode cX6_sayAll 101 = .ok (.invokestatic 91, 3) := by decide +kernel
theorem dX6_sayAll_104 : decode cX6_sayAll 104 = .ok (.istore 6, 2) := by decide +kernel
theorem dX6_sayAll_106 : decode cX6_sayAll 106 = .ok (.aload_n 0, 1) := by decide +kernel
theorem dX6_sayAll_107 : decode cX6_sayAll 107 = .ok (.getfield 18, 3) := by decide +kernel
theorem dX6_sayAll_110 : decode cX6_sayAll 110 = .ok (.iload_n 3, 1) := by decide +kernel
theorem dX6_sayAll_111 : decode cX6_sayAll 111 = .ok (.dup2, 1) := by decide +kernel
theorem dX6_sayAll_112 : decode cX6_sayAll 112 = .ok (.iaload, 1) := by decide +kernel
theorem dX6_sayAll_113 : decode cX6_sayAll 113 = .ok (.iload 6, 2) := by decide +kernel
theorem dX6_sayAll_115 : decode cX6_sayAll 115 = .ok (.isub, 1) := by decide +kernel
theorem dX6_sayAll_116 : decode cX6_sayAll 116 = .ok (.iastore, 1) := by decide +kernel
theorem dX6_sayAll_117 : decode cX6_sayAll 117 = .ok (.iload_n 1, 1) := by decide +kernel
theorem dX6_sayAll_118 : decode cX6_sayAll 118 = .ok (.iload 6, 2) := by decide +kernel
theorem dX6_sayAll_120 : decode cX6_sayAll 120 = .ok (.iadd, 1) := by decide +kernel
theorem dX6_sayAll_121 : decode cX6_sayAll 121 = .ok (.istore_n 1, 1) := by decide +kernel
theorem dX6_sayAll_122 : decode cX6_sayAll 122 = .ok (.iinc 2 1, 3) := by decide +kernel
theorem dX6_sayAll_125 : decode cX6_sayAll 125 = .ok (.goto (-121), 3) := by decide +kernel
theorem dX6_sayAll_128 : decode cX6_sayAll 128 = .ok (.iload_n 1, 1) := by decide +kernel
theorem dX6_sayAll_129 : decode cX6_sayAll 129 = .ok (.ireturn, 1) := by decide +kernel
set_option maxRecDepth 20000 in
theorem ggX6_saveAll_X6_savesOf : GoodIn wsX6_saveAll wsX6_savesOf := goodIn_r _ [13, 14, 15, 16, 17, 18, 19, 20, 21, 22, 23, 24, 25, 26, 27, 28] (by decide +kernel) (by decide +kernel)
set_option maxRecDepth 20000 in
theorem gX6_saveAll_X6_savesOf : GoodIn wsX6_saveAll (wsV RX6 101 RX6 yX6_savesOf wsX6_savesOf) := goodIn_app (goodIn_of _ (by decide +kernel)) ggX6_saveAll_X6_savesOf
theorem dX6_saveAll_0 : decode cX6_saveAll 0 = .ok (.iconst 0, 1) := by decide +kernel
theorem dX6_saveAll_1 : decode cX6_saveAll 1 = .ok (.istore_n 1, 1) := by decide +kernel
theorem dX6_saveAll_2 : decode cX6_saveAll 2 = .ok (.iload_n 1, 1) := by decide +kernel
theorem dX6_saveAll_3 : decode cX6_saveAll 3 = .ok (.aload_n 0, 1) := by decide +kernel
theorem dX6_saveAll_4 : decode cX6_saveAll 4 = .ok (.getfield 41, 3) := by decide +kernel
theorem dX6_saveAll_7 : decode cX6_saveAll 7 = .ok (.if_icmp .ge 67, 3) := by decide +kernel
theorem dX6_saveAll_10 : decode cX6_saveAll 10 = .ok (.aload_n 0, 1) := by decide +kernel
theorem dX6_saveAll_11 : decode cX6_saveAll 11 = .ok (.getfield 30, 3) := by decide +kernel
theorem dX6_saveAll_14 : decode cX6_saveAll 14 = .ok (.iload_n 1, 1) := by decide +kernel
theorem dX6_saveAll_15 : decode cX6_saveAll 15 = .ok (.baload, 1) := by decide +kernel
theorem dX6_saveAll_16 : decode cX6_saveAll 16 = .ok (.ifCond .ne 52, 3) := by decide +kernel
theorem dX6_saveAll_19 : decode cX6_saveAll 19 = .ok (.aload_n 0, 1) := by decide +kernel
theorem dX6_saveAll_20 : decode cX6_saveAll 20 = .ok (.getfield 18, 3) := by decide +kernel
theorem dX6_saveAll_23 : decode cX6_saveAll 23 = .ok (.iload_n 1, 1) := by decide +kernel
theorem dX6_saveAll_24 : decode cX6_saveAll 24 = .ok (.iaload, 1) := by decide +kernel
theorem dX6_saveAll_25 : decode cX6_saveAll 25 = .ok (.bipush 99, 2) := by decide +kernel
theorem dX6_saveAll_27 : decode cX6_saveAll 27 = .ok (.aload_n 0, 1) := by decide +kernel
theorem dX6_saveAll_28 : decode cX6_saveAll 28 = .ok (.getfield 21, 3) := by decide +kernel
theorem dX6_saveAll_31 : decode cX6_saveAll 31 = .ok (.iload_n 1, 1) := by decide +kernel
theorem dX6_saveAll_32 : decode cX6_saveAll 32 = .ok (.iaload, 1) := by decide +kernel
theorem dX6_saveAll_33 : decode cX6_saveAll 33 = .ok (.isub, 1) := by decide +kernel
theorem dX6_saveAll_34 : decode cX6_saveAll 34 = .ok (.invokestatic 91, 3) := by decide +kernel
theorem dX6_saveAll_37 : decode cX6_saveAll 37 = .ok (.istore_n 2, 1) := by decide +kernel
theorem dX6_saveAll_38 : decode cX6_saveAll 38 = .ok (.aload_n 0, 1) := by decide +kernel
theorem dX6_saveAll_39 : decode cX6_saveAll 39 = .ok (.iload_n 1, 1) := by decide +kernel
theorem dX6_saveAll_40 : decode cX6_saveAll 40 = .ok (.invokevirtual 101, 3) := by decide +kernel
theorem dX6_saveAll_43 : decode cX6_saveAll 43 = .ok (.iload_n 2, 1) := by decide +kernel
theorem dX6_saveAll_44 : decode cX6_saveAll 44 = .ok (.invokestatic 91, 3) := by decide +kernel
theorem dX6_saveAll_47 : decode cX6_saveAll 47 = .ok (.istore_n 3, 1) := by decide +kernel
theorem dX6_saveAll_48 : decode cX6_saveAll 48 = .ok (.aload_n 0, 1) := by decide +kernel
theorem dX6_saveAll_49 : decode cX6_saveAll 49 = .ok (.getfield 18, 3) := by decide +kernel
theorem dX6_saveAll_52 : decode cX6_saveAll 52 = .ok (.iload_n 1, 1) := by decide +kernel
theorem dX6_saveAll_53 : decode cX6_saveAll 53 = .ok (.dup2, 1) := by decide +kernel
theorem dX6_saveAll_54 : decode cX6_saveAll 54 = .ok (.iaload, 1) := by decide +kernel
theorem dX6_saveAll_55 : decode cX6_saveAll 55 = .ok (.iload_n 3, 1) := by decide +kernel
theorem dX6_saveAll_56 : decode cX6_saveAll 56 = .ok (.isub, 1) := by decide +kernel
theorem dX6_saveAll_57 : decode cX6_saveAll 57 = .ok (.iastore, 1) := by decide +kernel
theorem dX6_saveAll_58 : decode cX6_saveAll 58 = .ok (.aload_n 0, 1) := by decide +kernel
theorem dX6_saveAll_59 : decode cX6_saveAll 59 = .ok (.getfield 21, 3) := by decide +kernel
theorem dX6_saveAll_62 : decode cX6_saveAll 62 = .ok (.iload_n 1, 1) := by decide +kernel
theorem dX6_saveAll_63 : decode cX6_saveAll 63 = .ok (.dup2, 1) := by decide +kernel
theorem dX6_saveAll_64 : decode cX6_saveAll 64 = .ok (.iaload, 1) := by decide +kernel
theorem dX6_saveAll_65 : decode cX6_saveAll 65 = .ok (.iload_n 3, 1) := by decide +kernel
theorem dX6_saveAll_66 : decode cX6_saveAll 66 = .ok (.iadd, 1) := by decide +kernel
theorem dX6_saveAll_67 : decode cX6_saveAll 67 = .ok (.iastore, 1) := by decide +kernel
theorem dX6_saveAll_68 : decode cX6_saveAll 68 = .ok (.iinc 1 1, 3) := by decide +kernel
theorem dX6_saveAll_71 : decode cX6_saveAll 71 = .ok (.goto (-69), 3) := by decide +kernel
theorem dX6_saveAll_74 : decode cX6_saveAll 74 = .ok (.return_, 1) := by decide +kernel
theorem dX6_changeOver_0 : decode cX6_changeOver 0 = .ok (.iconst 0, 1) := by decide +kernel
theorem dX6_changeOver_1 : decode cX6_changeOver 1 = .ok (.istore_n 1, 1) := by decide +kernel
theorem dX6_changeOver_2 : decode cX6_changeOver 2 = .ok (.iload_n 1, 1) := by decide +kernel
theorem dX6_changeOver_3 : decode cX6_changeOver 3 = .ok (.aload_n 0, 1) := by decide +kernel
theorem dX6_changeOver_4 : decode cX6_changeOver 4 = .ok (.getfield 41, 3) := by decide +kernel
theorem dX6_changeOver_7 : decode cX6_changeOver 7 = .ok (.if_icmp .ge 39, 3) := by decide +kernel
theorem dX6_changeOver_10 : decode cX6_changeOver 10 = .ok (.aload_n 0, 1) := by decide +kernel
theorem dX6_changeOver_11 : decode cX6_changeOver 11 = .ok (.getfield 27, 3) := by decide +kernel
theorem dX6_changeOver_14 : decode cX6_changeOver 14 = .ok (.iload_n 1, 1) := by decide +kernel
theorem dX6_changeOver_15 : decode cX6_changeOver 15 = .ok (.iaload, 1) := by decide +kernel
theorem dX6_changeOver_16 : decode cX6_changeOver 16 = .ok (.iconst (-1), 1) := by decide +kernel
theorem dX6_changeOver_17 : decode cX6_changeOver 17 = .ok (.if_icmp .eq 23, 3) := by decide +kernel
theorem dX6_changeOver_20 : decode cX6_changeOver 20 = .ok (.aload_n 0, 1) := by decide +kernel
theorem dX6_changeOver_21 : decode cX6_changeOver 21 = .ok (.getfield 30, 3) := by decide +kernel
theorem dX6_changeOver_24 : decode cX6_changeOver 24 = .ok (.iload_n 1, 1) := by decide +kernel
theorem dX6_changeOver_25 : decode cX6_changeOver 25 = .ok (.aload_n 0, 1) := by decide +kernel
theorem dX6_changeOver_26 : decode cX6_changeOver 26 = .ok (.getfield 30, 3) := by decide +kernel
theorem dX6_changeOver_29 : decode cX6_changeOver 29 = .ok (.iload_n 1, 1) := by decide +kernel
theorem dX6_changeOver_30 : decode cX6_changeOver 30 = .ok (.baload, 1) := by decide +kernel
theorem dX6_changeOver_31 : decode cX6_changeOver 31 = .ok (.ifCond .ne 7, 3) := by decide +kernel
theorem dX6_changeOver_34 : decode cX6_changeOver 34 = .ok (.iconst 1, 1) := by decide +kernel
theorem dX6_changeOver_35 : decode cX6_changeOver 35 = .ok (.goto 4, 3) := by decide +kernel
theorem dX6_changeOver_38 : decode cX6_changeOver 38 = .ok (.iconst 0, 1) := by decide +kernel
theorem dX6_changeOver_39 : decode cX6_changeOver 39 = .ok (.bastore, 1) := by decide +kernel
theorem dX6_changeOver_40 : decode cX6_changeOver 40 = .ok (.iinc 1 1, 3) := by decide +kernel
theorem dX6_changeOver_43 : decode cX6_changeOver 43 = .ok (.goto (-41), 3) := by decide +kernel
theorem dX6_changeOver_46 : decode cX6_changeOver 46 = .ok (.return_, 1) := by decide +kernel
set_option maxRecDepth 20000 in
theorem ggX6_passDayByDraws_X6_draw : GoodIn wsX6_passDayByDraws wsX6_draw := goodIn_r _ [7, 8, 9, 79, 80, 81, 82, 83, 84, 85, 86, 87, 88, 89, 90] (by decide +kernel) (by decide +kernel)
set_option maxRecDepth 20000 in
theorem gX6_passDayByDraws_X6_draw : GoodIn wsX6_passDayByDraws (wsV RX6 104 RX6 yX6_draw wsX6_draw) := goodIn_app (goodIn_of _ (by decide +kernel)) ggX6_passDayByDraws_X6_draw
set_option maxRecDepth 20000 in
theorem ggX6_passDayByDraws_X6_joinByLot : GoodIn wsX6_passDayByDraws wsX6_joinByLot := goodIn_r _ [13, 14, 15, 16, 6, 17, 18, 19, 20, 21, 22, 23, 24, 25, 26, 27, 1, 28, 29, 30, 31, 79, 80, 81, 82, 83, 84, 85, 86, 87, 88, 89, 90] (by decide +kernel) (by decide +kernel)
set_option maxRecDepth 20000 in
theorem gX6_passDayByDraws_X6_joinByLot : GoodIn wsX6_passDayByDraws (wsV RX6 107 RX6 yX6_joinByLot wsX6_joinByLot) := goodIn_app (goodIn_of _ (by decide +kernel)) ggX6_passDayByDraws_X6_joinByLot
set_option maxRecDepth 20000 in
theorem ggX6_passDayByDraws_X6_passDay : GoodIn wsX6_passDayByDraws wsX6_passDay := goodIn_r _ [35, 36, 37, 38, 39, 40, 41, 42, 43, 44, 45, 6, 46, 1, 47, 48, 49, 50, 51, 52, 53, 54, 55, 2, 56, 57, 58, 59, 60, 61, 23, 18, 24, 25, 26, 27, 62, 63, 64, 65, 66, 67, 68, 69, 70, 71, 72, 73, 74, 75, 76, 77, 78, 79, 80, 81, 82, 83, 84, 85, 86, 87, 88, 89, 90] (by decide +kernel) (by decide +kernel)
set_option maxRecDepth 20000 in
theorem gX6_passDayByDraws_X6_passDay : GoodIn wsX6_passDayByDraws (wsV RX6 74 RX6 yX6_passDay wsX6_passDay) := goodIn_app (goodIn_of _ (by decide +kernel)) ggX6_passDayByDraws_X6_passDay
theorem dX6_passDayByDraws_0 : decode cX6_passDayByDraws 0 = .ok (.aload_n 0, 1) := by decide +kernel
theorem dX6_passDayByDraws_1 : decode cX6_passDayByDraws 1 = .ok (.getfield 41, 3) := by decide +kernel
theorem dX6_passDayByDraws_4 : decode cX6_passDayByDraws 4 = .ok (.ifCond .le 43, 3) := by decide +kernel
theorem dX6_passDayByDraws_7 : decode cX6_passDayByDraws 7 = .ok (.aload_n 0, 1) := by decide +kernel
theorem dX6_passDayByDraws_8 : decode cX6_passDayByDraws 8 = .ok (.invokevirtual 104, 3) := by decide +kernel
theorem dX6_passDayByDraws_11 : decode cX6_passDayByDraws 11 = .ok (.aload_n 0, 1) := by decide +kernel
theorem dX6_passDayByDraws_12 : decode cX6_passDayByDraws 12 = .ok (.getfield 41, 3) := by decide +kernel
theorem dX6_passDayByDraws_15 : decode cX6_passDayByDraws 15 = .ok (.irem, 1) := by decide +kernel
theorem dX6_passDayByDraws_16 : decode cX6_passDayByDraws 16 = .ok (.istore_n 1, 1) := by decide +kernel
theorem dX6_passDayByDraws_17 : decode cX6_passDayByDraws 17 = .ok (.aload_n 0, 1) := by decide +kernel
theorem dX6_passDayByDraws_18 : decode cX6_passDayByDraws 18 = .ok (.invokevirtual 104, 3) := by decide +kernel
theorem dX6_passDayByDraws_21 : decode cX6_passDayByDraws 21 = .ok (.bipush 100, 2) := by decide +kernel
theorem dX6_passDayByDraws_23 : decode cX6_passDayByDraws 23 = .ok (.irem, 1) := by decide +kernel
theorem dX6_passDayByDraws_24 : decode cX6_passDayByDraws 24 = .ok (.aload_n 0, 1) := by decide +kernel
theorem dX6_passDayByDraws_25 : decode cX6_passDayByDraws 25 = .ok (.getfield 9, 3) := by decide +kernel
theorem dX6_passDayByDraws_28 : decode cX6_passDayByDraws 28 = .ok (.iconst 3, 1) := by decide +kernel
theorem dX6_passDayByDraws_29 : decode cX6_passDayByDraws 29 = .ok (.iaload, 1) := by decide +kernel
theorem dX6_passDayByDraws_30 : decode cX6_passDayByDraws 30 = .ok (.if_icmp .ge 17, 3) := by decide +kernel
theorem dX6_passDayByDraws_33 : decode cX6_passDayByDraws 33 = .ok (.aload_n 0, 1) := by decide +kernel
theorem dX6_passDayByDraws_34 : decode cX6_passDayByDraws 34 = .ok (.iload_n 1, 1) := by decide +kernel
theorem dX6_passDayByDraws_35 : decode cX6_passDayByDraws 35 = .ok (.aload_n 0, 1) := by decide +kernel
theorem dX6_passDayByDraws_36 : decode cX6_passDayByDraws 36 = .ok (.invokevirtual 104, 3) := by decide +kernel
theorem dX6_passDayByDraws_39 : decode cX6_passDayByDraws 39 = .ok (.aload_n 0, 1) := by decide +kernel
theorem dX6_passDayByDraws_40 : decode cX6_passDayByDraws 40 = .ok (.getfield 41, 3) := by decide +kernel
theorem dX6_passDayByDraws_43 : decode cX6_passDayByDraws 43 = .ok (.irem, 1) := by decide +kernel
theorem dX6_passDayByDraws_44 : decode cX6_passDayByDraws 44 = .ok (.invokevirtual 107, 3) := by decide +kernel
theorem dX6_passDayByDraws_47 : decode cX6_passDayByDraws 47 = .ok (.aload_n 0, 1) := by decide +kernel
theorem dX6_passDayByDraws_48 : decode cX6_passDayByDraws 48 = .ok (.invokevirtual 74, 3) := by decide +kernel
theorem dX6_passDayByDraws_51 : decode cX6_passDayByDraws 51 = .ok (.ireturn, 1) := by decide +kernel
set_option maxRecDepth 20000 in
theorem ggX6_joinByLot_X6_unjoin : GoodIn wsX6_joinByLot wsX6_unjoin := goodIn_r _ [5, 6, 7, 8, 9, 4, 10, 11, 12, 13, 14, 15, 16, 21, 22, 23, 24, 25, 26, 27, 28, 29, 30, 31, 32] (by decide +kernel) (by decide +kernel)
set_option maxRecDepth 20000 in
theorem gX6_joinByLot_X6_unjoin : GoodIn wsX6_joinByLot (wsV RX6 65 RX6 yX6_unjoin wsX6_unjoin) := goodIn_app (goodIn_of _ (by decide +kernel)) ggX6_joinByLot_X6_unjoin
set_option maxRecDepth 20000 in
theorem ggX6_joinByLot_X6_join : GoodIn wsX6_joinByLot wsX6_join := goodIn_r _ [20, 6, 11, 1, 2, 3, 4, 5, 7, 8, 9, 10, 12, 13, 14, 15, 16, 21, 22, 23, 24, 25, 26, 27, 28, 29, 30, 31, 32] (by decide +kernel) (by decide +kernel)
set_option maxRecDepth 20000 in
theorem gX6_joinByLot_X6_join : GoodIn wsX6_joinByLot (wsV RX6 111 RX6 yX6_join wsX6_join) := goodIn_app (goodIn_of _ (by decide +kernel)) ggX6_joinByLot_X6_join
theorem dX6_joinByLot_0 : decode cX6_joinByLot 0 = .ok (.iload_n 1, 1) := by decide +kernel
theorem dX6_joinByLot_1 : decode cX6_joinByLot 1 = .ok (.iload_n 2, 1) := by decide +kernel
theorem dX6_joinByLot_2 : decode cX6_joinByLot 2 = .ok (.if_icmp .ne 11, 3) := by decide +kernel
theorem dX6_joinByLot_5 : decode cX6_joinByLot 5 = .ok (.aload_n 0, 1) := by decide +kernel
theorem dX6_joinByLot_6 : decode cX6_joinByLot 6 = .ok (.iload_n 1, 1) := by decide +kernel
theorem dX6_joinByLot_7 : decode cX6_joinByLot 7 = .ok (.invokevirtual 65, 3) := by decide +kernel
theorem dX6_joinByLot_10 : decode cX6_joinByLot 10 = .ok (.goto 9, 3) := by decide +kernel
theorem dX6_joinByLot_13 : decode cX6_joinByLot 13 = .ok (.aload_n 0, 1) := by decide +kernel
theorem dX6_joinByLot_14 : decode cX6_joinByLot 14 = .ok (.iload_n 1, 1) := by decide +kernel
theorem dX6_joinByLot_15 : decode cX6_joinByLot 15 = .ok (.iload_n 2, 1) := by decide +kernel
theorem dX6_joinByLot_16 : decode cX6_joinByLot 16 = .ok (.invokevirtual 111, 3) := by decide +kernel
theorem dX6_joinByLot_19 : decode cX6_joinByLot 19 = .ok (.return_, 1) := by decide +kernel
theorem dX6_draw_0 : decode cX6_draw 0 = .ok (.aload_n 0, 1) := by decide +kernel
theorem dX6_draw_1 : decode cX6_draw 1 = .ok (.aload_n 0, 1) := by decide +kernel
theorem dX6_draw_2 : decode cX6_draw 2 = .ok (.getfield 37, 3) := by decide +kernel
theorem dX6_draw_5 : decode cX6_draw 5 = .ok (.ldc 114, 2) := by decide +kernel
theorem dX6_draw_7 : decode cX6_draw 7 = .ok (.imul, 1) := by decide +kernel
theorem dX6_draw_8 : decode cX6_draw 8 = .ok (.sipush 12345, 3) := by decide +kernel
theorem dX6_draw_11 : decode cX6_draw 11 = .ok (.iadd, 1) := by decide +kernel
theorem dX6_draw_12 : decode cX6_draw 12 = .ok (.putfield 37, 3) := by decide +kernel
theorem dX6_draw_15 : decode cX6_draw 15 = .ok (.aload_n 0, 1) := by decide +kernel
theorem dX6_draw_16 : decode cX6_draw 16 = .ok (.getfield 37, 3) := by decide +kernel
theorem dX6_draw_19 : decode cX6_draw 19 = .ok (.bipush 16, 2) := by decide +kernel
theorem dX6_draw_21 : decode cX6_draw 21 = .ok (.iushr, 1) := by decide +kernel
theorem dX6_draw_22 : decode cX6_draw 22 = .ok (.ireturn, 1) := by decide +kernel
theorem dX6_allNeed_0 : decode cX6_allNeed 0 = .ok (.iconst 0, 1) := by decide +kernel
theorem dX6_allNeed_1 : decode cX6_allNeed 1 = .ok (.istore_n 1, 1) := by decide +kernel
theorem dX6_allNeed_2 : decode cX6_allNeed 2 = .ok (.iconst 0, 1) := by decide +kernel
theorem dX6_allNeed_3 : decode cX6_allNeed 3 = .ok (.istore_n 2, 1) := by decide +kernel
theorem dX6_allNeed_4 : decode cX6_allNeed 4 = .ok (.iload_n 2, 1) := by decide +kernel
theorem dX6_allNeed_5 : decode cX6_allNeed 5 = .ok (.aload_n 0, 1) := by decide +kernel
theorem dX6_allNeed_6 : decode cX6_allNeed 6 = .ok (.getfield 41, 3) := by decide +kernel
theorem dX6_allNeed_9 : decode cX6_allNeed 9 = .ok (.if_icmp .ge 18, 3) := by decide +kernel
theorem dX6_allNeed_12 : decode cX6_allNeed 12 = .ok (.iload_n 1, 1) := by decide +kernel
theorem dX6_allNeed_13 : decode cX6_allNeed 13 = .ok (.aload_n 0, 1) := by decide +kernel
theorem dX6_allNeed_14 : decode cX6_allNeed 14 = .ok (.getfield 18, 3) := by decide +kernel
theorem dX6_allNeed_17 : decode cX6_allNeed 17 = .ok (.iload_n 2, 1) := by decide +kernel
theorem dX6_allNeed_18 : decode cX6_allNeed 18 = .ok (.iaload, 1) := by decide +kernel
theorem dX6_allNeed_19 : decode cX6_allNeed 19 = .ok (.iadd, 1) := by decide +kernel
theorem dX6_allNeed_20 : decode cX6_allNeed 20 = .ok (.istore_n 1, 1) := by decide +kernel
theorem dX6_allNeed_21 : decode cX6_allNeed 21 = .ok (.iinc 2 1, 3) := by decide +kernel
theorem dX6_allNeed_24 : decode cX6_allNeed 24 = .ok (.goto (-20), 3) := by decide +kernel
theorem dX6_allNeed_27 : decode cX6_allNeed 27 = .ok (.iload_n 1, 1) := by decide +kernel
theorem dX6_allNeed_28 : decode cX6_allNeed 28 = .ok (.ireturn, 1) := by decide +kernel
theorem dX6_allSaved_0 : decode cX6_allSaved 0 = .ok (.iconst 0, 1) := by decide +kernel
theorem dX6_allSaved_1 : decode cX6_allSaved 1 = .ok (.istore_n 1, 1) := by decide +kernel
theorem dX6_allSaved_2 : decode cX6_allSaved 2 = .ok (.iconst 0, 1) := by decide +kernel
theorem dX6_allSaved_3 : decode cX6_allSaved 3 = .ok (.istore_n 2, 1) := by decide +kernel
theorem dX6_allSaved_4 : decode cX6_allSaved 4 = .ok (.iload_n 2, 1) := by decide +kernel
theorem dX6_allSaved_5 : decode cX6_allSaved 5 = .ok (.aload_n 0, 1) := by decide +kernel
theorem dX6_allSaved_6 : decode cX6_allSaved 6 = .ok (.getfield 41, 3) := by decide +kernel
theorem dX6_allSaved_9 : decode cX6_allSaved 9 = .ok (.if_icmp .ge 18, 3) := by decide +kernel
theorem dX6_allSaved_12 : decode cX6_allSaved 12 = .ok (.iload_n 1, 1) := by decide +kernel
theorem dX6_allSaved_13 : decode cX6_allSaved 13 = .ok (.aload_n 0, 1) := by decide +kernel
theorem dX6_allSaved_14 : decode cX6_allSaved 14 = .ok (.getfield 21, 3) := by decide +kernel
theorem dX6_allSaved_17 : decode cX6_allSaved 17 = .ok (.iload_n 2, 1) := by decide +kernel
theorem dX6_allSaved_18 : decode cX6_allSaved 18 = .ok (.iaload, 1) := by decide +kernel
theorem dX6_allSaved_19 : decode cX6_allSaved 19 = .ok (.iadd, 1) := by decide +kernel
theorem dX6_allSaved_20 : decode cX6_allSaved 20 = .ok (.istore_n 1, 1) := by decide +kernel
theorem dX6_allSaved_21 : decode cX6_allSaved 21 = .ok (.iinc 2 1, 3) := by decide +kernel
theorem dX6_allSaved_24 : decode cX6_allSaved 24 = .ok (.goto (-20), 3) := by decide +kernel
theorem dX6_allSaved_27 : decode cX6_allSaved 27 = .ok (.iload_n 1, 1) := by decide +kernel
theorem dX6_allSaved_28 : decode cX6_allSaved 28 = .ok (.ireturn, 1) := by decide +kernel
theorem dX6_speakers_0 : decode cX6_speakers 0 = .ok (.iconst 0, 1) := by decide +kernel
theorem dX6_speakers_1 : decode cX6_speakers 1 = .ok (.istore_n 1, 1) := by decide +kernel
theorem dX6_speakers_2 : decode cX6_speakers 2 = .ok (.iconst 0, 1) := by decide +kernel
theorem dX6_speakers_3 : decode cX6_speakers 3 = .ok (.istore_n 2, 1) := by decide +kernel
theorem dX6_speakers_4 : decode cX6_speakers 4 = .ok (.iload_n 2, 1) := by decide +kernel
theorem dX6_speakers_5 : decode cX6_speakers 5 = .ok (.aload_n 0, 1) := by decide +kernel
theorem dX6_speakers_6 : decode cX6_speakers 6 = .ok (.getfield 41, 3) := by decide +kernel
theorem dX6_speakers_9 : decode cX6_speakers 9 = .ok (.if_icmp .ge 24, 3) := by decide +kernel
theorem dX6_speakers_12 : decode cX6_speakers 12 = .ok (.aload_n 0, 1) := by decide +kernel
theorem dX6_speakers_13 : decode cX6_speakers 13 = .ok (.getfield 30, 3) := by decide +kernel
theorem dX6_speakers_16 : decode cX6_speakers 16 = .ok (.iload_n 2, 1) := by decide +kernel
theorem dX6_speakers_17 : decode cX6_speakers 17 = .ok (.baload, 1) := by decide +kernel
theorem dX6_speakers_18 : decode cX6_speakers 18 = .ok (.ifCond .eq 9, 3) := by decide +kernel
theorem dX6_speakers_21 : decode cX6_speakers 21 = .ok (.iload_n 1, 1) := by decide +kernel
theorem dX6_speakers_22 : decode cX6_speakers 22 = .ok (.iconst 1, 1) := by decide +kernel
theorem dX6_speakers_23 : decode cX6_speakers 23 = .ok (.iload_n 2, 1) := by decide +kernel
theorem dX6_speakers_24 : decode cX6_speakers 24 = .ok (.ishl, 1) := by decide +kernel
theorem dX6_speakers_25 : decode cX6_speakers 25 = .ok (.ior, 1) := by decide +kernel
theorem dX6_speakers_26 : decode cX6_speakers 26 = .ok (.istore_n 1, 1) := by decide +kernel
theorem dX6_speakers_27 : decode cX6_speakers 27 = .ok (.iinc 2 1, 3) := by decide +kernel
theorem dX6_speakers_30 : decode cX6_speakers 30 = .ok (.goto (-26), 3) := by decide +kernel
theorem dX6_speakers_33 : decode cX6_speakers 33 = .ok (.iload_n 1, 1) := by decide +kernel
theorem dX6_speakers_34 : decode cX6_speakers 34 = .ok (.ireturn, 1) := by decide +kernel
theorem dX6_pairs_0 : decode cX6_pairs 0 = .ok (.iconst 0, 1) := by decide +kernel
theorem dX6_pairs_1 : decode cX6_pairs 1 = .ok (.istore_n 1, 1) := by decide +kernel
theorem dX6_pairs_2 : decode cX6_pairs 2 = .ok (.iconst 0, 1) := by decide +kernel
theorem dX6_pairs_3 : decode cX6_pairs 3 = .ok (.istore_n 2, 1) := by decide +kernel
theorem dX6_pairs_4 : decode cX6_pairs 4 = .ok (.iload_n 2, 1) := by decide +kernel
theorem dX6_pairs_5 : decode cX6_pairs 5 = .ok (.aload_n 0, 1) := by decide +kernel
theorem dX6_pairs_6 : decode cX6_pairs 6 = .ok (.getfield 41, 3) := by decide +kernel
theorem dX6_pairs_9 : decode cX6_pairs 9 = .ok (.if_icmp .ge 22, 3) := by decide +kernel
theorem dX6_pairs_12 : decode cX6_pairs 12 = .ok (.aload_n 0, 1) := by decide +kernel
theorem dX6_pairs_13 : decode cX6_pairs 13 = .ok (.getfield 27, 3) := by decide +kernel
theorem dX6_pairs_16 : decode cX6_pairs 16 = .ok (.iload_n 2, 1) := by decide +kernel
theorem dX6_pairs_17 : decode cX6_pairs 17 = .ok (.iaload, 1) := by decide +kernel
theorem dX6_pairs_18 : decode cX6_pairs 18 = .ok (.iload_n 2, 1) := by decide +kernel
theorem dX6_pairs_19 : decode cX6_pairs 19 = .ok (.if_icmp .le 6, 3) := by decide +kernel
theorem dX6_pairs_22 : decode cX6_pairs 22 = .ok (.iinc 1 1, 3) := by decide +kernel
theorem dX6_pairs_25 : decode cX6_pairs 25 = .ok (.iinc 2 1, 3) := by decide +kernel
theorem dX6_pairs_28 : decode cX6_pairs 28 = .ok (.goto (-24), 3) := by decide +kernel
theorem dX6_pairs_31 : decode cX6_pairs 31 = .ok (.iload_n 1, 1) := by decide +kernel
theorem dX6_pairs_32 : decode cX6_pairs 32 = .ok (.ireturn, 1) := by decide +kernel
theorem dX6_fullOnes_0 : decode cX6_fullOnes 0 = .ok (.iconst 0, 1) := by decide +kernel
theorem dX6_fullOnes_1 : decode cX6_fullOnes 1 = .ok (.istore_n 1, 1) := by decide +kernel
theorem dX6_fullOnes_2 : decode cX6_fullOnes 2 = .ok (.iconst 0, 1) := by decide +kernel
theorem dX6_fullOnes_3 : decode cX6_fullOnes 3 = .ok (.istore_n 2, 1) := by decide +kernel
theorem dX6_fullOnes_4 : decode cX6_fullOnes 4 = .ok (.iload_n 2, 1) := by decide +kernel
theorem dX6_fullOnes_5 : decode cX6_fullOnes 5 = .ok (.aload_n 0, 1) := by decide +kernel
theorem dX6_fullOnes_6 : decode cX6_fullOnes 6 = .ok (.getfield 41, 3) := by decide +kernel
theorem dX6_fullOnes_9 : decode cX6_fullOnes 9 = .ok (.if_icmp .ge 23, 3) := by decide +kernel
theorem dX6_fullOnes_12 : decode cX6_fullOnes 12 = .ok (.aload_n 0, 1) := by decide +kernel
theorem dX6_fullOnes_13 : decode cX6_fullOnes 13 = .ok (.getfield 18, 3) := by decide +kernel
theorem dX6_fullOnes_16 : decode cX6_fullOnes 16 = .ok (.iload_n 2, 1) := by decide +kernel
theorem dX6_fullOnes_17 : decode cX6_fullOnes 17 = .ok (.iaload, 1) := by decide +kernel
theorem dX6_fullOnes_18 : decode cX6_fullOnes 18 = .ok (.bipush 99, 2) := by decide +kernel
theorem dX6_fullOnes_20 : decode cX6_fullOnes 20 = .ok (.if_icmp .ne 6, 3) := by decide +kernel
theorem dX6_fullOnes_23 : decode cX6_fullOnes 23 = .ok (.iinc 1 1, 3) := by decide +kernel
theorem dX6_fullOnes_26 : decode cX6_fullOnes 26 = .ok (.iinc 2 1, 3) := by decide +kernel
theorem dX6_fullOnes_29 : decode cX6_fullOnes 29 = .ok (.goto (-25), 3) := by decide +kernel
theorem dX6_fullOnes_32 : decode cX6_fullOnes 32 = .ok (.iload_n 1, 1) := by decide +kernel
theorem dX6_fullOnes_33 : decode cX6_fullOnes 33 = .ok (.ireturn, 1) := by decide +kernel
