theorem dX7_init_0 : decode cX7_init 0 = .ok (.aload_n 0, 1) := by decide +kernel
theorem dX7_init_1 : decode cX7_init 1 = .ok (.invokespecial 3, 3) := by decide +kernel
theorem dX7_init_4 : decode cX7_init 4 = .ok (.aload_n 0, 1) := by decide +kernel
theorem dX7_init_5 : decode cX7_init 5 = .ok (.aload_n 1, 1) := by decide +kernel
theorem dX7_init_6 : decode cX7_init 6 = .ok (.putfield 9, 3) := by decide +kernel
theorem dX7_init_9 : decode cX7_init 9 = .ok (.aload_n 0, 1) := by decide +kernel
theorem dX7_init_10 : decode cX7_init 10 = .ok (.aload_n 2, 1) := by decide +kernel
theorem dX7_init_11 : decode cX7_init 11 = .ok (.putfield 15, 3) := by decide +kernel
theorem dX7_init_14 : decode cX7_init 14 = .ok (.return_, 1) := by decide +kernel
set_option maxRecDepth 20000 in
theorem ggX7_soundBy_X6_copyFrom : GoodIn wsX7_soundBy wsX6_copyFrom := goodIn_r _ [7, 8, 9, 10, 11, 12, 13, 14, 15, 16, 17, 18, 19, 20, 6, 21, 22, 23, 74, 75, 76, 77, 78, 79, 80, 81, 82, 83, 84, 85] (by decide +kernel) (by decide +kernel)
set_option maxRecDepth 20000 in
theorem gX7_soundBy_X6_copyFrom : GoodIn wsX7_soundBy (wsV RX7 18 RX6 yX6_copyFrom wsX6_copyFrom) := goodIn_app (goodIn_of _ (by decide +kernel)) ggX7_soundBy_X6_copyFrom
set_option maxRecDepth 20000 in
theorem ggX7_soundBy_X6_pass : GoodIn wsX7_soundBy wsX6_pass := goodIn_r _ [27, 28, 29, 30, 6, 31, 32, 8, 33, 34, 35, 36, 23, 37, 38, 39, 40, 11, 13, 41, 42, 43, 9, 44, 45, 46, 47, 22, 12, 15, 48, 49, 50, 51, 17, 16, 52, 53, 54, 55, 56, 57, 58, 59, 14, 60, 61, 62, 63, 64, 65, 66, 67, 68, 69, 70, 71, 74, 75, 76, 77, 78, 79, 80, 81, 82, 83, 84, 85] (by decide +kernel) (by decide +kernel)
set_option maxRecDepth 20000 in
theorem gX7_soundBy_X6_pass : GoodIn wsX7_soundBy (wsV RX7 24 RX6 yX6_pass wsX6_pass) := goodIn_app (goodIn_of _ (by decide +kernel)) ggX7_soundBy_X6_pass
theorem dX7_soundBy_0 : decode cX7_soundBy 0 = .ok (.aload_n 0, 1) := by decide +kernel
theorem dX7_soundBy_1 : decode cX7_soundBy 1 = .ok (.getfield 15, 3) := by decide +kernel
theorem dX7_soundBy_4 : decode cX7_soundBy 4 = .ok (.aload_n 0, 1) := by decide +kernel
theorem dX7_soundBy_5 : decode cX7_soundBy 5 = .ok (.getfield 9, 3) := by decide +kernel
theorem dX7_soundBy_8 : decode cX7_soundBy 8 = .ok (.invokevirtual 18, 3) := by decide +kernel
theorem dX7_soundBy_11 : decode cX7_soundBy 11 = .ok (.aload_n 0, 1) := by decide +kernel
theorem dX7_soundBy_12 : decode cX7_soundBy 12 = .ok (.getfield 15, 3) := by decide +kernel
theorem dX7_soundBy_15 : decode cX7_soundBy 15 = .ok (.iload_n 1, 1) := by decide +kernel
theorem dX7_soundBy_16 : decode cX7_soundBy 16 = .ok (.invokevirtual 24, 3) := by decide +kernel
theorem dX7_soundBy_19 : decode cX7_soundBy 19 = .ok (.ireturn, 1) := by decide +kernel
set_option maxRecDepth 20000 in
theorem ggX7_daysUntilNeed_X6_copyFrom : GoodIn wsX7_daysUntilNeed wsX6_copyFrom := goodIn_r _ [8, 9, 10, 11, 12, 13, 14, 15, 16, 17, 18, 19, 20, 21, 7, 22, 23, 24, 71, 72, 73, 74, 75, 76, 77, 78, 79, 80, 81, 82] (by decide +kernel) (by decide +kernel)
set_option maxRecDepth 20000 in
theorem gX7_daysUntilNeed_X6_copyFrom : GoodIn wsX7_daysUntilNeed (wsV RX7 18 RX6 yX6_copyFrom wsX6_copyFrom) := goodIn_app (goodIn_of _ (by decide +kernel)) ggX7_daysUntilNeed_X6_copyFrom
set_option maxRecDepth 20000 in
theorem ggX7_daysUntilNeed_X6_passDay : GoodIn wsX7_daysUntilNeed wsX6_passDay := goodIn_r _ [28, 29, 9, 30, 31, 32, 33, 24, 34, 35, 36, 7, 37, 12, 14, 38, 39, 40, 10, 41, 42, 43, 44, 23, 13, 16, 45, 46, 47, 48, 18, 17, 49, 50, 51, 52, 53, 54, 55, 56, 15, 57, 58, 59, 60, 61, 62, 63, 64, 65, 66, 67, 68, 71, 72, 73, 74, 75, 76, 77, 78, 79, 80, 81, 82] (by decide +kernel) (by decide +kernel)
set_option maxRecDepth 20000 in
theorem gX7_daysUntilNeed_X6_passDay : GoodIn wsX7_daysUntilNeed (wsV RX7 32 RX6 yX6_passDay wsX6_passDay) := goodIn_app (goodIn_of _ (by decide +kernel)) ggX7_daysUntilNeed_X6_passDay
theorem dX7_daysUntilNeed_0 : decode cX7_daysUntilNeed 0 = .ok (.aload_n 0, 1) := by decide +kernel
theorem dX7_daysUntilNeed_1 : decode cX7_daysUntilNeed 1 = .ok (.getfield 15, 3) := by decide +kernel
theorem dX7_daysUntilNeed_4 : decode cX7_daysUntilNeed 4 = .ok (.aload_n 0, 1) := by decide +kernel
theorem dX7_daysUntilNeed_5 : decode cX7_daysUntilNeed 5 = .ok (.getfield 9, 3) := by decide +kernel
theorem dX7_daysUntilNeed_8 : decode cX7_daysUntilNeed 8 = .ok (.invokevirtual 18, 3) := by decide +kernel
theorem dX7_daysUntilNeed_11 : decode cX7_daysUntilNeed 11 = .ok (.iconst 0, 1) := by decide +kernel
theorem dX7_daysUntilNeed_12 : decode cX7_daysUntilNeed 12 = .ok (.istore_n 3, 1) := by decide +kernel
theorem dX7_daysUntilNeed_13 : decode cX7_daysUntilNeed 13 = .ok (.iload_n 3, 1) := by decide +kernel
theorem dX7_daysUntilNeed_14 : decode cX7_daysUntilNeed 14 = .ok (.bipush 60, 2) := by decide +kernel
theorem dX7_daysUntilNeed_16 : decode cX7_daysUntilNeed 16 = .ok (.if_icmp .gt 32, 3) := by decide +kernel
theorem dX7_daysUntilNeed_19 : decode cX7_daysUntilNeed 19 = .ok (.aload_n 0, 1) := by decide +kernel
theorem dX7_daysUntilNeed_20 : decode cX7_daysUntilNeed 20 = .ok (.getfield 15, 3) := by decide +kernel
theorem dX7_daysUntilNeed_23 : decode cX7_daysUntilNeed 23 = .ok (.getfield 28, 3) := by decide +kernel
theorem dX7_daysUntilNeed_26 : decode cX7_daysUntilNeed 26 = .ok (.iload_n 1, 1) := by decide +kernel
theorem dX7_daysUntilNeed_27 : decode cX7_daysUntilNeed 27 = .ok (.iaload, 1) := by decide +kernel
theorem dX7_daysUntilNeed_28 : decode cX7_daysUntilNeed 28 = .ok (.iload_n 2, 1) := by decide +kernel
theorem dX7_daysUntilNeed_29 : decode cX7_daysUntilNeed 29 = .ok (.if_icmp .ne 5, 3) := by decide +kernel
theorem dX7_daysUntilNeed_32 : decode cX7_daysUntilNeed 32 = .ok (.iload_n 3, 1) := by decide +kernel
theorem dX7_daysUntilNeed_33 : decode cX7_daysUntilNeed 33 = .ok (.ireturn, 1) := by decide +kernel
theorem dX7_daysUntilNeed_34 : decode cX7_daysUntilNeed 34 = .ok (.aload_n 0, 1) := by decide +kernel
theorem dX7_daysUntilNeed_35 : decode cX7_daysUntilNeed 35 = .ok (.getfield 15, 3) := by decide +kernel
theorem dX7_daysUntilNeed_38 : decode cX7_daysUntilNeed 38 = .ok (.invokevirtual 32, 3) := by decide +kernel
theorem dX7_daysUntilNeed_41 : decode cX7_daysUntilNeed 41 = .ok (.pop, 1) := by decide +kernel
theorem dX7_daysUntilNeed_42 : decode cX7_daysUntilNeed 42 = .ok (.iinc 3 1, 3) := by decide +kernel
theorem dX7_daysUntilNeed_45 : decode cX7_daysUntilNeed 45 = .ok (.goto (-32), 3) := by decide +kernel
theorem dX7_daysUntilNeed_48 : decode cX7_daysUntilNeed 48 = .ok (.bipush (-3), 2) := by decide +kernel
theorem dX7_daysUntilNeed_50 : decode cX7_daysUntilNeed 50 = .ok (.ireturn, 1) := by decide +kernel
set_option maxRecDepth 20000 in
theorem ggX7_daysUntilHush_X6_copyFrom : GoodIn wsX7_daysUntilHush wsX6_copyFrom := goodIn_r _ [7, 8, 9, 10, 11, 12, 13, 14, 15, 16, 17, 18, 19, 20, 6, 21, 22, 23, 74, 75, 76, 77, 78, 79, 80, 81, 82, 83, 84, 85] (by decide +kernel) (by decide +kernel)
set_option maxRecDepth 20000 in
theorem gX7_daysUntilHush_X6_copyFrom : GoodIn wsX7_daysUntilHush (wsV RX7 18 RX6 yX6_copyFrom wsX6_copyFrom) := goodIn_app (goodIn_of _ (by decide +kernel)) ggX7_daysUntilHush_X6_copyFrom
set_option maxRecDepth 20000 in
theorem ggX7_daysUntilHush_X6_allNeed : GoodIn wsX7_daysUntilHush wsX6_allNeed := goodIn_r _ [27, 11, 13, 74, 75, 76, 77, 78, 79, 80, 81, 82, 83, 84, 85] (by decide +kernel) (by decide +kernel)
set_option maxRecDepth 20000 in
theorem gX7_daysUntilHush_X6_allNeed : GoodIn wsX7_daysUntilHush (wsV RX7 36 RX6 yX6_allNeed wsX6_allNeed) := goodIn_app (goodIn_of _ (by decide +kernel)) ggX7_daysUntilHush_X6_allNeed
set_option maxRecDepth 20000 in
theorem ggX7_daysUntilHush_X6_passDay : GoodIn wsX7_daysUntilHush wsX6_passDay := goodIn_r _ [31, 32, 8, 33, 34, 35, 36, 23, 37, 38, 39, 6, 40, 11, 13, 41, 42, 43, 9, 44, 45, 46, 47, 22, 12, 15, 48, 49, 50, 51, 17, 16, 52, 53, 54, 55, 56, 57, 58, 59, 14, 60, 61, 62, 63, 64, 65, 66, 67, 68, 69, 70, 71, 74, 75, 76, 77, 78, 79, 80, 81, 82, 83, 84, 85] (by decide +kernel) (by decide +kernel)
set_option maxRecDepth 20000 in
theorem gX7_daysUntilHush_X6_passDay : GoodIn wsX7_daysUntilHush (wsV RX7 32 RX6 yX6_passDay wsX6_passDay) := goodIn_app (goodIn_of _ (by decide +kernel)) ggX7_daysUntilHush_X6_passDay
theorem dX7_daysUntilHush_0 : decode cX7_daysUntilHush 0 = .ok (.aload_n 0, 1) := by decide +kernel
theorem dX7_daysUntilHush_1 : decode cX7_daysUntilHush 1 = .ok (.getfield 15, 3) := by decide +kernel
theorem dX7_daysUntilHush_4 : decode cX7_daysUntilHush 4 = .ok (.aload_n 0, 1) := by decide +kernel
theorem dX7_daysUntilHush_5 : decode cX7_daysUntilHush 5 = .ok (.getfield 9, 3) := by decide +kernel
theorem dX7_daysUntilHush_8 : decode cX7_daysUntilHush 8 = .ok (.invokevirtual 18, 3) := by decide +kernel
theorem dX7_daysUntilHush_11 : decode cX7_daysUntilHush 11 = .ok (.iconst 0, 1) := by decide +kernel
theorem dX7_daysUntilHush_12 : decode cX7_daysUntilHush 12 = .ok (.istore_n 1, 1) := by decide +kernel
theorem dX7_daysUntilHush_13 : decode cX7_daysUntilHush 13 = .ok (.iload_n 1, 1) := by decide +kernel
theorem dX7_daysUntilHush_14 : decode cX7_daysUntilHush 14 = .ok (.bipush 60, 2) := by decide +kernel
theorem dX7_daysUntilHush_16 : decode cX7_daysUntilHush 16 = .ok (.if_icmp .gt 29, 3) := by decide +kernel
theorem dX7_daysUntilHush_19 : decode cX7_daysUntilHush 19 = .ok (.aload_n 0, 1) := by decide +kernel
theorem dX7_daysUntilHush_20 : decode cX7_daysUntilHush 20 = .ok (.getfield 15, 3) := by decide +kernel
theorem dX7_daysUntilHush_23 : decode cX7_daysUntilHush 23 = .ok (.invokevirtual 36, 3) := by decide +kernel
theorem dX7_daysUntilHush_26 : decode cX7_daysUntilHush 26 = .ok (.ifCond .ne 5, 3) := by decide +kernel
theorem dX7_daysUntilHush_29 : decode cX7_daysUntilHush 29 = .ok (.iload_n 1, 1) := by decide +kernel
theorem dX7_daysUntilHush_30 : decode cX7_daysUntilHush 30 = .ok (.ireturn, 1) := by decide +kernel
theorem dX7_daysUntilHush_31 : decode cX7_daysUntilHush 31 = .ok (.aload_n 0, 1) := by decide +kernel
theorem dX7_daysUntilHush_32 : decode cX7_daysUntilHush 32 = .ok (.getfield 15, 3) := by decide +kernel
theorem dX7_daysUntilHush_35 : decode cX7_daysUntilHush 35 = .ok (.invokevirtual 32, 3) := by decide +kernel
theorem dX7_daysUntilHush_38 : decode cX7_daysUntilHush 38 = .ok (.pop, 1) := by decide +kernel
theorem dX7_daysUntilHush_39 : decode cX7_daysUntilHush 39 = .ok (.iinc 1 1, 3) := by decide +kernel
theorem dX7_daysUntilHush_42 : decode cX7_daysUntilHush 42 = .ok (.goto (-29), 3) := by decide +kernel
theorem dX7_daysUntilHush_45 : decode cX7_daysUntilHush 45 = .ok (.bipush (-3), 2) := by decide +kernel
theorem dX7_daysUntilHush_47 : decode cX7_daysUntilHush 47 = .ok (.ireturn, 1) := by decide +kernel
set_option maxRecDepth 20000 in
theorem ggX7_loudestPartner_X6_copyFrom : GoodIn wsX7_loudestPartner wsX6_copyFrom := goodIn_r _ [8, 9, 10, 11, 12, 13, 14, 15, 16, 17, 18, 19, 20, 21, 7, 22, 23, 24, 87, 88, 89, 90, 91, 92, 93, 94, 95, 96, 97, 98] (by decide +kernel) (by decide +kernel)
set_option maxRecDepth 20000 in
theorem gX7_loudestPartner_X6_copyFrom : GoodIn wsX7_loudestPartner (wsV RX7 18 RX6 yX6_copyFrom wsX6_copyFrom) := goodIn_app (goodIn_of _ (by decide +kernel)) ggX7_loudestPartner_X6_copyFrom
set_option maxRecDepth 20000 in
theorem ggX7_loudestPartner_X6_pass : GoodIn wsX7_loudestPartner wsX6_pass := goodIn_r _ [28, 29, 30, 31, 7, 32, 33, 9, 34, 35, 36, 37, 24, 38, 39, 40, 41, 12, 14, 42, 43, 44, 10, 45, 46, 47, 48, 23, 13, 16, 49, 50, 51, 52, 18, 17, 53, 54, 55, 56, 57, 58, 59, 60, 15, 61, 62, 63, 64, 65, 66, 67, 68, 69, 70, 71, 72, 87, 88, 89, 90, 91, 92, 93, 94, 95, 96, 97, 98] (by decide +kernel) (by decide +kernel)
set_option maxRecDepth 20000 in
theorem gX7_loudestPartner_X6_pass : GoodIn wsX7_loudestPartner (wsV RX7 24 RX6 yX6_pass wsX6_pass) := goodIn_app (goodIn_of _ (by decide +kernel)) ggX7_loudestPartner_X6_pass
set_option maxRecDepth 20000 in
theorem ggX7_loudestPartner_X6_join : GoodIn wsX7_loudestPartner wsX6_join := goodIn_r _ [76, 17, 18, 77, 78, 79, 7, 80, 81, 82, 83, 84, 53, 54, 55, 56, 12, 87, 88, 89, 90, 91, 92, 93, 94, 95, 96, 97, 98] (by decide +kernel) (by decide +kernel)
set_option maxRecDepth 20000 in
theorem gX7_loudestPartner_X6_join : GoodIn wsX7_loudestPartner (wsV RX7 43 RX6 yX6_join wsX6_join) := goodIn_app (goodIn_of _ (by decide +kernel)) ggX7_loudestPartner_X6_join
theorem dX7_loudestPartner_0 : decode cX7_loudestPartner 0 = .ok (.aload_n 0, 1) := by decide +kernel
theorem dX7_loudestPartner_1 : decode cX7_loudestPartner 1 = .ok (.getfield 15, 3) := by decide +kernel
theorem dX7_loudestPartner_4 : decode cX7_loudestPartner 4 = .ok (.aload_n 0, 1) := by decide +kernel
theorem dX7_loudestPartner_5 : decode cX7_loudestPartner 5 = .ok (.getfield 9, 3) := by decide +kernel
theorem dX7_loudestPartner_8 : decode cX7_loudestPartner 8 = .ok (.invokevirtual 18, 3) := by decide +kernel
theorem dX7_loudestPartner_11 : decode cX7_loudestPartner 11 = .ok (.aload_n 0, 1) := by decide +kernel
theorem dX7_loudestPartner_12 : decode cX7_loudestPartner 12 = .ok (.getfield 15, 3) := by decide +kernel
theorem dX7_loudestPartner_15 : decode cX7_loudestPartner 15 = .ok (.iload_n 2, 1) := by decide +kernel
theorem dX7_loudestPartner_16 : decode cX7_loudestPartner 16 = .ok (.invokevirtual 24, 3) := by decide +kernel
theorem dX7_loudestPartner_19 : decode cX7_loudestPartner 19 = .ok (.istore_n 3, 1) := by decide +kernel
theorem dX7_loudestPartner_20 : decode cX7_loudestPartner 20 = .ok (.bipush (-3), 2) := by decide +kernel
theorem dX7_loudestPartner_22 : decode cX7_loudestPartner 22 = .ok (.istore 4, 2) := by decide +kernel
theorem dX7_loudestPartner_24 : decode cX7_loudestPartner 24 = .ok (.iconst 0, 1) := by decide +kernel
theorem dX7_loudestPartner_25 : decode cX7_loudestPartner 25 = .ok (.istore 5, 2) := by decide +kernel
theorem dX7_loudestPartner_27 : decode cX7_loudestPartner 27 = .ok (.iload 5, 2) := by decide +kernel
theorem dX7_loudestPartner_29 : decode cX7_loudestPartner 29 = .ok (.aload_n 0, 1) := by decide +kernel
theorem dX7_loudestPartner_30 : decode cX7_loudestPartner 30 = .ok (.getfield 9, 3) := by decide +kernel
theorem dX7_loudestPartner_33 : decode cX7_loudestPartner 33 = .ok (.getfield 39, 3) := by decide +kernel
theorem dX7_loudestPartner_36 : decode cX7_loudestPartner 36 = .ok (.if_icmp .ge 59, 3) := by decide +kernel
theorem dX7_loudestPartner_39 : decode cX7_loudestPartner 39 = .ok (.iload 5, 2) := by decide +kernel
theorem dX7_loudestPartner_41 : decode cX7_loudestPartner 41 = .ok (.iload_n 1, 1) := by decide +kernel
theorem dX7_loudestPartner_42 : decode cX7_loudestPartner 42 = .ok (.if_icmp .eq 47, 3) := by decide +kernel
theorem dX7_loudestPartner_45 : decode cX7_loudestPartner 45 = .ok (.aload_n 0, 1) := by decide +kernel
theorem dX7_loudestPartner_46 : decode cX7_loudestPartner 46 = .ok (.getfield 15, 3) := by decide +kernel
theorem dX7_loudestPartner_49 : decode cX7_loudestPartner 49 = .ok (.aload_n 0, 1) := by decide +kernel
theorem dX7_loudestPartner_50 : decode cX7_loudestPartner 50 = .ok (.getfield 9, 3) := by decide +kernel
theorem dX7_loudestPartner_53 : decode cX7_loudestPartner 53 = .ok (.invokevirtual 18, 3) := by decide +kernel
theorem dX7_loudestPartner_56 : decode cX7_loudestPartner 56 = .ok (.aload_n 0, 1) := by decide +kernel
theorem dX7_loudestPartner_57 : decode cX7_loudestPartner 57 = .ok (.getfield 15, 3) := by decide +kernel
theorem dX7_loudestPartner_60 : decode cX7_loudestPartner 60 = .ok (.iload_n 1, 1) := by decide +kernel
theorem dX7_loudestPartner_61 : decode cX7_loudestPartner 61 = .ok (.iload 5, 2) := by decide +kernel
theorem dX7_loudestPartner_63 : decode cX7_loudestPartner 63 = .ok (.invokevirtual 43, 3) := by decide +kernel
theorem dX7_loudestPartner_66 : decode cX7_loudestPartner 66 = .ok (.aload_n 0, 1) := by decide +kernel
theorem dX7_loudestPartner_67 : decode cX7_loudestPartner 67 = .ok (.getfield 15, 3) := by decide +kernel
theorem dX7_loudestPartner_70 : decode cX7_loudestPartner 70 = .ok (.iload_n 2, 1) := by decide +kernel
theorem dX7_loudestPartner_71 : decode cX7_loudestPartner 71 = .ok (.invokevirtual 24, 3) := by decide +kernel
theorem dX7_loudestPartner_74 : decode cX7_loudestPartner 74 = .ok (.istore 6, 2) := by decide +kernel
theorem dX7_loudestPartner_76 : decode cX7_loudestPartner 76 = .ok (.iload 6, 2) := by decide +kernel
theorem dX7_loudestPartner_78 : decode cX7_loudestPartner 78 = .ok (.iload_n 3, 1) := by decide +kernel
theorem dX7_loudestPartner_79 : decode cX7_loudestPartner 79 = .ok (.if_icmp .le 10, 3) := by decide +kernel
theorem dX7_loudestPartner_82 : decode cX7_loudestPartner 82 = .ok (.iload 6, 2) := by decide +kernel
theorem dX7_loudestPartner_84 : decode cX7_loudestPartner 84 = .ok (.istore_n 3, 1) := by decide +kernel
theorem dX7_loudestPartner_85 : decode cX7_loudestPartner 85 = .ok (.iload 5, 2) := by decide +kernel
theorem dX7_loudestPartner_87 : decode cX7_loudestPartner 87 = .ok (.istore 4, 2) := by decide +kernel
theorem dX7_loudestPartner_89 : decode cX7_loudestPartner 89 = .ok (.iinc 5 1, 3) := by decide +kernel
theorem dX7_loudestPartner_92 : decode cX7_loudestPartner 92 = .ok (.goto (-65), 3) := by decide +kernel
theorem dX7_loudestPartner_95 : decode cX7_loudestPartner 95 = .ok (.iload 4, 2) := by decide +kernel
theorem dX7_loudestPartner_97 : decode cX7_loudestPartner 97 = .ok (.ireturn, 1) := by decide +kernel
set_option maxRecDepth 20000 in
theorem ggX7_loudestKind_X6_copyFrom : GoodIn wsX7_loudestKind wsX6_copyFrom := goodIn_r _ [8, 9, 10, 11, 12, 13, 14, 15, 16, 17, 18, 19, 20, 21, 7, 22, 23, 24, 75, 76, 77, 78, 79, 80, 81, 82, 83, 84, 85, 86] (by decide +kernel) (by decide +kernel)
set_option maxRecDepth 20000 in
theorem gX7_loudestKind_X6_copyFrom : GoodIn wsX7_loudestKind (wsV RX7 18 RX6 yX6_copyFrom wsX6_copyFrom) := goodIn_app (goodIn_of _ (by decide +kernel)) ggX7_loudestKind_X6_copyFrom
set_option maxRecDepth 20000 in
theorem ggX7_loudestKind_X6_pass : GoodIn wsX7_loudestKind wsX6_pass := goodIn_r _ [28, 29, 30, 31, 7, 32, 33, 9, 34, 35, 36, 37, 24, 38, 39, 40, 41, 12, 14, 42, 43, 44, 10, 45, 46, 47, 48, 23, 13, 16, 49, 50, 51, 52, 18, 17, 53, 54, 55, 56, 57, 58, 59, 60, 15, 61, 62, 63, 64, 65, 66, 67, 68, 69, 70, 71, 72, 75, 76, 77, 78, 79, 80, 81, 82, 83, 84, 85, 86] (by decide +kernel) (by decide +kernel)
set_option maxRecDepth 20000 in
theorem gX7_loudestKind_X6_pass : GoodIn wsX7_loudestKind (wsV RX7 24 RX6 yX6_pass wsX6_pass) := goodIn_app (goodIn_of _ (by decide +kernel)) ggX7_loudestKind_X6_pass
theorem dX7_loudestKind_0 : decode cX7_loudestKind 0 = .ok (.iconst (-1), 1) := by decide +kernel
theorem dX7_loudestKind_1 : decode cX7_loudestKind 1 = .ok (.istore_n 3, 1) := by decide +kernel
theorem dX7_loudestKind_2 : decode cX7_loudestKind 2 = .ok (.iconst 0, 1) := by decide +kernel
theorem dX7_loudestKind_3 : decode cX7_loudestKind 3 = .ok (.istore 4, 2) := by decide +kernel
theorem dX7_loudestKind_5 : decode cX7_loudestKind 5 = .ok (.iconst 0, 1) := by decide +kernel
theorem dX7_loudestKind_6 : decode cX7_loudestKind 6 = .ok (.istore 5, 2) := by decide +kernel
theorem dX7_loudestKind_8 : decode cX7_loudestKind 8 = .ok (.iload 5, 2) := by decide +kernel
theorem dX7_loudestKind_10 : decode cX7_loudestKind 10 = .ok (.bipush 6, 2) := by decide +kernel
theorem dX7_loudestKind_12 : decode cX7_loudestKind 12 = .ok (.if_icmp .ge 54, 3) := by decide +kernel
theorem dX7_loudestKind_15 : decode cX7_loudestKind 15 = .ok (.aload_n 0, 1) := by decide +kernel
theorem dX7_loudestKind_16 : decode cX7_loudestKind 16 = .ok (.getfield 15, 3) := by decide +kernel
theorem dX7_loudestKind_19 : decode cX7_loudestKind 19 = .ok (.aload_n 0, 1) := by decide +kernel
theorem dX7_loudestKind_20 : decode cX7_loudestKind 20 = .ok (.getfield 9, 3) := by decide +kernel
theorem dX7_loudestKind_23 : decode cX7_loudestKind 23 = .ok (.invokevirtual 18, 3) := by decide +kernel
theorem dX7_loudestKind_26 : decode cX7_loudestKind 26 = .ok (.aload_n 0, 1) := by decide +kernel
theorem dX7_loudestKind_27 : decode cX7_loudestKind 27 = .ok (.getfield 15, 3) := by decide +kernel
theorem dX7_loudestKind_30 : decode cX7_loudestKind 30 = .ok (.getfield 47, 3) := by decide +kernel
theorem dX7_loudestKind_33 : decode cX7_loudestKind 33 = .ok (.iload_n 1, 1) := by decide +kernel
theorem dX7_loudestKind_34 : decode cX7_loudestKind 34 = .ok (.iload 5, 2) := by decide +kernel
theorem dX7_loudestKind_36 : decode cX7_loudestKind 36 = .ok (.iastore, 1) := by decide +kernel
theorem dX7_loudestKind_37 : decode cX7_loudestKind 37 = .ok (.aload_n 0, 1) := by decide +kernel
theorem dX7_loudestKind_38 : decode cX7_loudestKind 38 = .ok (.getfield 15, 3) := by decide +kernel
theorem dX7_loudestKind_41 : decode cX7_loudestKind 41 = .ok (.iload_n 2, 1) := by decide +kernel
theorem dX7_loudestKind_42 : decode cX7_loudestKind 42 = .ok (.invokevirtual 24, 3) := by decide +kernel
theorem dX7_loudestKind_45 : decode cX7_loudestKind 45 = .ok (.istore 6, 2) := by decide +kernel
theorem dX7_loudestKind_47 : decode cX7_loudestKind 47 = .ok (.iload 6, 2) := by decide +kernel
theorem dX7_loudestKind_49 : decode cX7_loudestKind 49 = .ok (.iload_n 3, 1) := by decide +kernel
theorem dX7_loudestKind_50 : decode cX7_loudestKind 50 = .ok (.if_icmp .le 10, 3) := by decide +kernel
theorem dX7_loudestKind_53 : decode cX7_loudestKind 53 = .ok (.iload 6, 2) := by decide +kernel
theorem dX7_loudestKind_55 : decode cX7_loudestKind 55 = .ok (.istore_n 3, 1) := by decide +kernel
theorem dX7_loudestKind_56 : decode cX7_loudestKind 56 = .ok (.iload 5, 2) := by decide +kernel
theorem dX7_loudestKind_58 : decode cX7_loudestKind 58 = .ok (.istore 4, 2) := by decide +kernel
theorem dX7_loudestKind_60 : decode cX7_loudestKind 60 = .ok (.iinc 5 1, 3) := by decide +kernel
theorem dX7_loudestKind_63 : decode cX7_loudestKind 63 = .ok (.goto (-55), 3) := by decide +kernel
theorem dX7_loudestKind_66 : decode cX7_loudestKind 66 = .ok (.iload 4, 2) := by decide +kernel
theorem dX7_loudestKind_68 : decode cX7_loudestKind 68 = .ok (.ireturn, 1) := by decide +kernel
set_option maxRecDepth 20000 in
theorem ggX7_leastVoice_X6_copyFrom : GoodIn wsX7_leastVoice wsX6_copyFrom := goodIn_r _ [8, 9, 10, 11, 12, 13, 14, 15, 16, 17, 18, 19, 20, 21, 7, 22, 23, 24, 75, 76, 77, 78, 79, 80, 81, 82, 83, 84, 85, 86] (by decide +kernel) (by decide +kernel)
set_option maxRecDepth 20000 in
theorem gX7_leastVoice_X6_copyFrom : GoodIn wsX7_leastVoice (wsV RX7 18 RX6 yX6_copyFrom wsX6_copyFrom) := goodIn_app (goodIn_of _ (by decide +kernel)) ggX7_leastVoice_X6_copyFrom
set_option maxRecDepth 20000 in
theorem ggX7_leastVoice_X6_pass : GoodIn wsX7_leastVoice wsX6_pass := goodIn_r _ [28, 29, 30, 31, 7, 32, 33, 9, 34, 35, 36, 37, 24, 38, 39, 40, 41, 12, 14, 42, 43, 44, 10, 45, 46, 47, 48, 23, 13, 16, 49, 50, 51, 52, 18, 17, 53, 54, 55, 56, 57, 58, 59, 60, 15, 61, 62, 63, 64, 65, 66, 67, 68, 69, 70, 71, 72, 75, 76, 77, 78, 79, 80, 81, 82, 83, 84, 85, 86] (by decide +kernel) (by decide +kernel)
set_option maxRecDepth 20000 in
theorem gX7_leastVoice_X6_pass : GoodIn wsX7_leastVoice (wsV RX7 24 RX6 yX6_pass wsX6_pass) := goodIn_app (goodIn_of _ (by decide +kernel)) ggX7_leastVoice_X6_pass
theorem dX7_leastVoice_0 : decode cX7_leastVoice 0 = .ok (.iconst 0, 1) := by decide +kernel
theorem dX7_leastVoice_1 : decode cX7_leastVoice 1 = .ok (.istore 4, 2) := by decide +kernel
theorem dX7_leastVoice_3 : decode cX7_leastVoice 3 = .ok (.iload 4, 2) := by decide +kernel
theorem dX7_leastVoice_5 : decode cX7_leastVoice 5 = .ok (.bipush 9, 2) := by decide +kernel
theorem dX7_leastVoice_7 : decode cX7_leastVoice 7 = .ok (.if_icmp .gt 46, 3) := by decide +kernel
theorem dX7_leastVoice_10 : decode cX7_leastVoice 10 = .ok (.aload_n 0, 1) := by decide +kernel
theorem dX7_leastVoice_11 : decode cX7_leastVoice 11 = .ok (.getfield 15, 3) := by decide +kernel
theorem dX7_leastVoice_14 : decode cX7_leastVoice 14 = .ok (.aload_n 0, 1) := by decide +kernel
theorem dX7_leastVoice_15 : decode cX7_leastVoice 15 = .ok (.getfield 9, 3) := by decide +kernel
theorem dX7_leastVoice_18 : decode cX7_leastVoice 18 = .ok (.invokevirtual 18, 3) := by decide +kernel
theorem dX7_leastVoice_21 : decode cX7_leastVoice 21 = .ok (.aload_n 0, 1) := by decide +kernel
theorem dX7_leastVoice_22 : decode cX7_leastVoice 22 = .ok (.getfield 15, 3) := by decide +kernel
theorem dX7_leastVoice_25 : decode cX7_leastVoice 25 = .ok (.getfield 50, 3) := by decide +kernel
theorem dX7_leastVoice_28 : decode cX7_leastVoice 28 = .ok (.iload_n 1, 1) := by decide +kernel
theorem dX7_leastVoice_29 : decode cX7_leastVoice 29 = .ok (.iload 4, 2) := by decide +kernel
theorem dX7_leastVoice_31 : decode cX7_leastVoice 31 = .ok (.iastore, 1) := by decide +kernel
theorem dX7_leastVoice_32 : decode cX7_leastVoice 32 = .ok (.aload_n 0, 1) := by decide +kernel
theorem dX7_leastVoice_33 : decode cX7_leastVoice 33 = .ok (.getfield 15, 3) := by decide +kernel
theorem dX7_leastVoice_36 : decode cX7_leastVoice 36 = .ok (.iload_n 2, 1) := by decide +kernel
theorem dX7_leastVoice_37 : decode cX7_leastVoice 37 = .ok (.invokevirtual 24, 3) := by decide +kernel
theorem dX7_leastVoice_40 : decode cX7_leastVoice 40 = .ok (.iload_n 3, 1) := by decide +kernel
theorem dX7_leastVoice_41 : decode cX7_leastVoice 41 = .ok (.if_icmp .lt 6, 3) := by decide +kernel
theorem dX7_leastVoice_44 : decode cX7_leastVoice 44 = .ok (.iload 4, 2) := by decide +kernel
theorem dX7_leastVoice_46 : decode cX7_leastVoice 46 = .ok (.ireturn, 1) := by decide +kernel
theorem dX7_leastVoice_47 : decode cX7_leastVoice 47 = .ok (.iinc 4 1, 3) := by decide +kernel
theorem dX7_leastVoice_50 : decode cX7_leastVoice 50 = .ok (.goto (-47), 3) := by decide +kernel
theorem dX7_leastVoice_53 : decode cX7_leastVoice 53 = .ok (.bipush (-3), 2) := by decide +kernel
theorem dX7_leastVoice_55 : decode cX7_leastVoice 55 = .ok (.ireturn, 1) := by decide +kernel
set_option maxRecDepth 20000 in
theorem ggX7_howManyFit_X7_voiceFits : GoodIn wsX7_howManyFit wsX7_voiceFits := goodIn_r _ [5, 6, 7, 8, 9, 10, 11, 12, 13, 14, 15, 16, 17, 18, 19, 20, 21, 22, 23, 24, 25, 26, 27, 28, 29, 30, 31, 32, 33, 34, 35, 36, 37, 38, 39, 40, 41, 42, 43, 44, 45, 46, 47, 48, 49, 50, 51, 52, 53, 54, 55, 56, 57, 58, 59, 60, 61, 62, 63, 64, 65, 66, 67, 68, 69, 70, 71, 72, 73, 74, 75, 76, 77, 78, 79, 80, 81, 82, 83, 84, 85, 86, 87, 88, 89, 90, 91, 92] (by decide +kernel) (by decide +kernel)
set_option maxRecDepth 20000 in
theorem gX7_howManyFit_X7_voiceFits : GoodIn wsX7_howManyFit (wsV RX7 53 RX7 yX7_voiceFits wsX7_voiceFits) := goodIn_app (goodIn_of _ (by decide +kernel)) ggX7_howManyFit_X7_voiceFits
theorem dX7_howManyFit_0 : decode cX7_howManyFit 0 = .ok (.iconst 0, 1) := by decide +kernel
theorem dX7_howManyFit_1 : decode cX7_howManyFit 1 = .ok (.istore_n 3, 1) := by decide +kernel
theorem dX7_howManyFit_2 : decode cX7_howManyFit 2 = .ok (.iconst 0, 1) := by decide +kernel
theorem dX7_howManyFit_3 : decode cX7_howManyFit 3 = .ok (.istore 4, 2) := by decide +kernel
theorem dX7_howManyFit_5 : decode cX7_howManyFit 5 = .ok (.iload 4, 2) := by decide +kernel
theorem dX7_howManyFit_7 : decode cX7_howManyFit 7 = .ok (.bipush 9, 2) := by decide +kernel
theorem dX7_howManyFit_9 : decode cX7_howManyFit 9 = .ok (.if_icmp .gt 23, 3) := by decide +kernel
theorem dX7_howManyFit_12 : decode cX7_howManyFit 12 = .ok (.aload_n 0, 1) := by decide +kernel
theorem dX7_howManyFit_13 : decode cX7_howManyFit 13 = .ok (.aload_n 1, 1) := by decide +kernel
theorem dX7_howManyFit_14 : decode cX7_howManyFit 14 = .ok (.iload_n 2, 1) := by decide +kernel
theorem dX7_howManyFit_15 : decode cX7_howManyFit 15 = .ok (.iload 4, 2) := by decide +kernel
theorem dX7_howManyFit_17 : decode cX7_howManyFit 17 = .ok (.invokevirtual 53, 3) := by decide +kernel
theorem dX7_howManyFit_20 : decode cX7_howManyFit 20 = .ok (.ifCond .eq 6, 3) := by decide +kernel
theorem dX7_howManyFit_23 : decode cX7_howManyFit 23 = .ok (.iinc 3 1, 3) := by decide +kernel
theorem dX7_howManyFit_26 : decode cX7_howManyFit 26 = .ok (.iinc 4 1, 3) := by decide +kernel
theorem dX7_howManyFit_29 : decode cX7_howManyFit 29 = .ok (.goto (-24), 3) := by decide +kernel
theorem dX7_howManyFit_32 : decode cX7_howManyFit 32 = .ok (.iload_n 3, 1) := by decide +kernel
theorem dX7_howManyFit_33 : decode cX7_howManyFit 33 = .ok (.ireturn, 1) := by decide +kernel
set_option maxRecDepth 20000 in
theorem ggX7_leastFit_X7_voiceFits : GoodIn wsX7_leastFit wsX7_voiceFits := goodIn_r _ [5, 6, 7, 8, 9, 10, 11, 12, 13, 14, 15, 16, 17, 18, 19, 20, 21, 22, 23, 24, 25, 26, 27, 28, 29, 30, 31, 32, 33, 34, 35, 36, 37, 38, 39, 40, 41, 42, 43, 44, 45, 46, 47, 48, 49, 50, 51, 52, 53, 54, 55, 56, 57, 58, 59, 60, 61, 62, 63, 64, 65, 66, 67, 68, 69, 70, 71, 72, 73, 74, 75, 76, 77, 78, 79, 80, 81, 82, 83, 84, 85, 86, 87, 88, 89, 90, 91, 92] (by decide +kernel) (by decide +kernel)
set_option maxRecDepth 20000 in
theorem gX7_leastFit_X7_voiceFits : GoodIn wsX7_leastFit (wsV RX7 53 RX7 yX7_voiceFits wsX7_voiceFits) := goodIn_app (goodIn_of _ (by decide +kernel)) ggX7_leastFit_X7_voiceFits
theorem dX7_leastFit_0 : decode cX7_leastFit 0 = .ok (.iconst 0, 1) := by decide +kernel
theorem dX7_leastFit_1 : decode cX7_leastFit 1 = .ok (.istore_n 3, 1) := by decide +kernel
theorem dX7_leastFit_2 : decode cX7_leastFit 2 = .ok (.iload_n 3, 1) := by decide +kernel
theorem dX7_leastFit_3 : decode cX7_leastFit 3 = .ok (.bipush 9, 2) := by decide +kernel
theorem dX7_leastFit_5 : decode cX7_leastFit 5 = .ok (.if_icmp .gt 21, 3) := by decide +kernel
theorem dX7_leastFit_8 : decode cX7_leastFit 8 = .ok (.aload_n 0, 1) := by decide +kernel
theorem dX7_leastFit_9 : decode cX7_leastFit 9 = .ok (.aload_n 1, 1) := by decide +kernel
theorem dX7_leastFit_10 : decode cX7_leastFit 10 = .ok (.iload_n 2, 1) := by decide +kernel
theorem dX7_leastFit_11 : decode cX7_leastFit 11 = .ok (.iload_n 3, 1) := by decide +kernel
theorem dX7_leastFit_12 : decode cX7_leastFit 12 = .ok (.invokevirtual 53, 3) := by decide +kernel
theorem dX7_leastFit_15 : decode cX7_leastFit 15 = .ok (.ifCond .eq 5, 3) := by decide +kernel
theorem dX7_leastFit_18 : decode cX7_leastFit 18 = .ok (.iload_n 3, 1) := by decide +kernel
theorem dX7_leastFit_19 : decode cX7_leastFit 19 = .ok (.ireturn, 1) := by decide +kernel
theorem dX7_leastFit_20 : decode cX7_leastFit 20 = .ok (.iinc 3 1, 3) := by decide +kernel
theorem dX7_leastFit_23 : decode cX7_leastFit 23 = .ok (.goto (-21), 3) := by decide +kernel
theorem dX7_leastFit_26 : decode cX7_leastFit 26 = .ok (.bipush (-3), 2) := by decide +kernel
theorem dX7_leastFit_28 : decode cX7_leastFit 28 = .ok (.ireturn, 1) := by decide +kernel
set_option maxRecDepth 20000 in
theorem ggX7_voiceFits_X6_copyFrom : GoodIn wsX7_voiceFits wsX6_copyFrom := goodIn_r _ [11, 12, 13, 14, 15, 16, 17, 18, 19, 20, 21, 22, 23, 24, 10, 25, 26, 27, 74, 75, 76, 77, 78, 79, 80, 81, 82, 83, 84, 85] (by decide +kernel) (by decide +kernel)
set_option maxRecDepth 20000 in
theorem gX7_voiceFits_X6_copyFrom : GoodIn wsX7_voiceFits (wsV RX7 18 RX6 yX6_copyFrom wsX6_copyFrom) := goodIn_app (goodIn_of _ (by decide +kernel)) ggX7_voiceFits_X6_copyFrom
set_option maxRecDepth 20000 in
theorem ggX7_voiceFits_X6_passDay : GoodIn wsX7_voiceFits wsX6_passDay := goodIn_r _ [31, 32, 12, 33, 34, 35, 36, 27, 37, 38, 39, 10, 40, 15, 17, 41, 42, 43, 13, 44, 45, 46, 47, 26, 16, 19, 48, 49, 50, 51, 21, 20, 52, 53, 54, 55, 56, 57, 58, 59, 18, 60, 61, 62, 63, 64, 65, 66, 67, 68, 69, 70, 71, 74, 75, 76, 77, 78, 79, 80, 81, 82, 83, 84, 85] (by decide +kernel) (by decide +kernel)
set_option maxRecDepth 20000 in
theorem gX7_voiceFits_X6_passDay : GoodIn wsX7_voiceFits (wsV RX7 32 RX6 yX6_passDay wsX6_passDay) := goodIn_app (goodIn_of _ (by decide +kernel)) ggX7_voiceFits_X6_passDay
theorem dX7_voiceFits_0 : decode cX7_voiceFits 0 = .ok (.aload_n 0, 1) := by decide +kernel
theorem dX7_voiceFits_1 : decode cX7_voiceFits 1 = .ok (.getfield 15, 3) := by decide +kernel
theorem dX7_voiceFits_4 : decode cX7_voiceFits 4 = .ok (.aload_n 0, 1) := by decide +kernel
theorem dX7_voiceFits_5 : decode cX7_voiceFits 5 = .ok (.getfield 9, 3) := by decide +kernel
theorem dX7_voiceFits_8 : decode cX7_voiceFits 8 = .ok (.invokevirtual 18, 3) := by decide +kernel
theorem dX7_voiceFits_11 : decode cX7_voiceFits 11 = .ok (.aload_n 0, 1) := by decide +kernel
theorem dX7_voiceFits_12 : decode cX7_voiceFits 12 = .ok (.getfield 15, 3) := by decide +kernel
theorem dX7_voiceFits_15 : decode cX7_voiceFits 15 = .ok (.getfield 50, 3) := by decide +kernel
theorem dX7_voiceFits_18 : decode cX7_voiceFits 18 = .ok (.iload_n 2, 1) := by decide +kernel
theorem dX7_voiceFits_19 : decode cX7_voiceFits 19 = .ok (.iload_n 3, 1) := by decide +kernel
theorem dX7_voiceFits_20 : decode cX7_voiceFits 20 = .ok (.iastore, 1) := by decide +kernel
theorem dX7_voiceFits_21 : decode cX7_voiceFits 21 = .ok (.iconst 0, 1) := by decide +kernel
theorem dX7_voiceFits_22 : decode cX7_voiceFits 22 = .ok (.istore 4, 2) := by decide +kernel
theorem dX7_voiceFits_24 : decode cX7_voiceFits 24 = .ok (.iload 4, 2) := by decide +kernel
theorem dX7_voiceFits_26 : decode cX7_voiceFits 26 = .ok (.aload_n 1, 1) := by decide +kernel
theorem dX7_voiceFits_27 : decode cX7_voiceFits 27 = .ok (.getfield 57, 3) := by decide +kernel
theorem dX7_voiceFits_30 : decode cX7_voiceFits 30 = .ok (.arraylength, 1) := by decide +kernel
theorem dX7_voiceFits_31 : decode cX7_voiceFits 31 = .ok (.if_icmp .ge 53, 3) := by decide +kernel
theorem dX7_voiceFits_34 : decode cX7_voiceFits 34 = .ok (.aload_n 0, 1) := by decide +kernel
theorem dX7_voiceFits_35 : decode cX7_voiceFits 35 = .ok (.getfield 15, 3) := by decide +kernel
theorem dX7_voiceFits_38 : decode cX7_voiceFits 38 = .ok (.invokevirtual 32, 3) := by decide +kernel
theorem dX7_voiceFits_41 : decode cX7_voiceFits 41 = .ok (.pop, 1) := by decide +kernel
theorem dX7_voiceFits_42 : decode cX7_voiceFits 42 = .ok (.aload_n 1, 1) := by decide +kernel
theorem dX7_voiceFits_43 : decode cX7_voiceFits 43 = .ok (.getfield 57, 3) := by decide +kernel
theorem dX7_voiceFits_46 : decode cX7_voiceFits 46 = .ok (.iload 4, 2) := by decide +kernel
theorem dX7_voiceFits_48 : decode cX7_voiceFits 48 = .ok (.laload, 1) := by decide +kernel
theorem dX7_voiceFits_49 : decode cX7_voiceFits 49 = .ok (.lstore 5, 2) := by decide +kernel
theorem dX7_voiceFits_51 : decode cX7_voiceFits 51 = .ok (.lload 5, 2) := by decide +kernel
theorem dX7_voiceFits_53 : decode cX7_voiceFits 53 = .ok (.ldc2_w 63, 3) := by decide +kernel
theorem dX7_voiceFits_56 : decode cX7_voiceFits 56 = .ok (.lcmp, 1) := by decide +kernel
theorem dX7_voiceFits_57 : decode cX7_voiceFits 57 = .ok (.ifCond .eq 21, 3) := by decide +kernel
theorem dX7_voiceFits_60 : decode cX7_voiceFits 60 = .ok (.lload 5, 2) := by decide +kernel
theorem dX7_voiceFits_62 : decode cX7_voiceFits 62 = .ok (.aload_n 0, 1) := by decide +kernel
theorem dX7_voiceFits_63 : decode cX7_voiceFits 63 = .ok (.getfield 15, 3) := by decide +kernel
theorem dX7_voiceFits_66 : decode cX7_voiceFits 66 = .ok (.getfield 28, 3) := by decide +kernel
theorem dX7_voiceFits_69 : decode cX7_voiceFits 69 = .ok (.iload_n 2, 1) := by decide +kernel
theorem dX7_voiceFits_70 : decode cX7_voiceFits 70 = .ok (.iaload, 1) := by decide +kernel
theorem dX7_voiceFits_71 : decode cX7_voiceFits 71 = .ok (.i2l, 1) := by decide +kernel
theorem dX7_voiceFits_72 : decode cX7_voiceFits 72 = .ok (.lcmp, 1) := by decide +kernel
theorem dX7_voiceFits_73 : decode cX7_voiceFits 73 = .ok (.ifCond .eq 5, 3) := by decide +kernel
theorem dX7_voiceFits_76 : decode cX7_voiceFits 76 = .ok (.iconst 0, 1) := by decide +kernel
theorem dX7_voiceFits_77 : decode cX7_voiceFits 77 = .ok (.ireturn, 1) := by decide +kernel
theorem dX7_voiceFits_78 : decode cX7_voiceFits 78 = .ok (.iinc 4 1, 3) := by decide +kernel
theorem dX7_voiceFits_81 : decode cX7_voiceFits 81 = .ok (.goto (-57), 3) := by decide +kernel
theorem dX7_voiceFits_84 : decode cX7_voiceFits 84 = .ok (.iconst 1, 1) := by decide +kernel
theorem dX7_voiceFits_85 : decode cX7_voiceFits 85 = .ok (.ireturn, 1) := by decide +kernel
set_option maxRecDepth 20000 in
theorem ggX7_luckyDays_X6_copyFrom : GoodIn wsX7_luckyDays wsX6_copyFrom := goodIn_r _ [8, 9, 10, 11, 12, 13, 14, 15, 16, 17, 18, 19, 20, 21, 7, 22, 23, 24, 97, 98, 99, 100, 101, 102, 103, 104, 105, 106, 107, 108] (by decide +kernel) (by decide +kernel)
set_option maxRecDepth 20000 in
theorem gX7_luckyDays_X6_copyFrom : GoodIn wsX7_luckyDays (wsV RX7 18 RX6 yX6_copyFrom wsX6_copyFrom) := goodIn_app (goodIn_of _ (by decide +kernel)) ggX7_luckyDays_X6_copyFrom
set_option maxRecDepth 20000 in
theorem ggX7_luckyDays_X6_passDay : GoodIn wsX7_luckyDays wsX6_passDay := goodIn_r _ [28, 29, 9, 30, 31, 32, 33, 24, 34, 35, 36, 7, 37, 12, 14, 38, 39, 40, 10, 41, 42, 43, 44, 23, 13, 16, 45, 46, 47, 48, 18, 17, 49, 50, 51, 52, 53, 54, 55, 56, 15, 57, 58, 59, 60, 61, 62, 63, 64, 65, 66, 67, 68, 97, 98, 99, 100, 101, 102, 103, 104, 105, 106, 107, 108] (by decide +kernel) (by decide +kernel)
set_option maxRecDepth 20000 in
theorem gX7_luckyDays_X6_passDay : GoodIn wsX7_luckyDays (wsV RX7 32 RX6 yX6_passDay wsX6_passDay) := goodIn_app (goodIn_of _ (by decide +kernel)) ggX7_luckyDays_X6_passDay
set_option maxRecDepth 20000 in
theorem ggX7_luckyDays_X6_passDayByDraws : GoodIn wsX7_luckyDays wsX6_passDayByDraws := goodIn_r _ [72, 12, 23, 73, 74, 75, 7, 76, 11, 77, 78, 79, 80, 81, 82, 83, 84, 85, 17, 86, 87, 88, 89, 18, 49, 50, 51, 52, 90, 91, 92, 93, 94, 26, 27, 28, 29, 9, 30, 31, 32, 33, 24, 34, 35, 36, 37, 14, 38, 39, 40, 10, 41, 42, 43, 44, 13, 16, 45, 46, 47, 48, 53, 54, 55, 56, 15, 57, 58, 59, 60, 61, 62, 63, 64, 65, 66, 67, 68, 97, 98, 99, 100, 101, 102, 103, 104, 105, 106, 107, 108] (by decide +kernel) (by decide +kernel)
set_option maxRecDepth 20000 in
theorem gX7_luckyDays_X6_passDayByDraws : GoodIn wsX7_luckyDays (wsV RX7 68 RX6 yX6_passDayByDraws wsX6_passDayByDraws) := goodIn_app (goodIn_of _ (by decide +kernel)) ggX7_luckyDays_X6_passDayByDraws
theorem dX7_luckyDays_0 : decode cX7_luckyDays 0 = .ok (.aload_n 0, 1) := by decide +kernel
theorem dX7_luckyDays_1 : decode cX7_luckyDays 1 = .ok (.getfield 15, 3) := by decide +kernel
theorem dX7_luckyDays_4 : decode cX7_luckyDays 4 = .ok (.aload_n 0, 1) := by decide +kernel
theorem dX7_luckyDays_5 : decode cX7_luckyDays 5 = .ok (.getfield 9, 3) := by decide +kernel
theorem dX7_luckyDays_8 : decode cX7_luckyDays 8 = .ok (.invokevirtual 18, 3) := by decide +kernel
theorem dX7_luckyDays_11 : decode cX7_luckyDays 11 = .ok (.aload_n 0, 1) := by decide +kernel
theorem dX7_luckyDays_12 : decode cX7_luckyDays 12 = .ok (.getfield 15, 3) := by decide +kernel
theorem dX7_luckyDays_15 : decode cX7_luckyDays 15 = .ok (.invokevirtual 32, 3) := by decide +kernel
theorem dX7_luckyDays_18 : decode cX7_luckyDays 18 = .ok (.istore_n 2, 1) := by decide +kernel
theorem dX7_luckyDays_19 : decode cX7_luckyDays 19 = .ok (.aload_n 0, 1) := by decide +kernel
theorem dX7_luckyDays_20 : decode cX7_luckyDays 20 = .ok (.getfield 9, 3) := by decide +kernel
theorem dX7_luckyDays_23 : decode cX7_luckyDays 23 = .ok (.getfield 65, 3) := by decide +kernel
theorem dX7_luckyDays_26 : decode cX7_luckyDays 26 = .ok (.istore_n 3, 1) := by decide +kernel
theorem dX7_luckyDays_27 : decode cX7_luckyDays 27 = .ok (.iconst 0, 1) := by decide +kernel
theorem dX7_luckyDays_28 : decode cX7_luckyDays 28 = .ok (.istore 4, 2) := by decide +kernel
theorem dX7_luckyDays_30 : decode cX7_luckyDays 30 = .ok (.iconst 0, 1) := by decide +kernel
theorem dX7_luckyDays_31 : decode cX7_luckyDays 31 = .ok (.istore 5, 2) := by decide +kernel
theorem dX7_luckyDays_33 : decode cX7_luckyDays 33 = .ok (.iload 5, 2) := by decide +kernel
theorem dX7_luckyDays_35 : decode cX7_luckyDays 35 = .ok (.iload_n 1, 1) := by decide +kernel
theorem dX7_luckyDays_36 : decode cX7_luckyDays 36 = .ok (.if_icmp .ge 50, 3) := by decide +kernel
theorem dX7_luckyDays_39 : decode cX7_luckyDays 39 = .ok (.aload_n 0, 1) := by decide +kernel
theorem dX7_luckyDays_40 : decode cX7_luckyDays 40 = .ok (.getfield 15, 3) := by decide +kernel
theorem dX7_luckyDays_43 : decode cX7_luckyDays 43 = .ok (.aload_n 0, 1) := by decide +kernel
theorem dX7_luckyDays_44 : decode cX7_luckyDays 44 = .ok (.getfield 9, 3) := by decide +kernel
theorem dX7_luckyDays_47 : decode cX7_luckyDays 47 = .ok (.invokevirtual 18, 3) := by decide +kernel
theorem dX7_luckyDays_50 : decode cX7_luckyDays 50 = .ok (.aload_n 0, 1) := by decide +kernel
theorem dX7_luckyDays_51 : decode cX7_luckyDays 51 = .ok (.getfield 15, 3) := by decide +kernel
theorem dX7_luckyDays_54 : decode cX7_luckyDays 54 = .ok (.iload_n 3, 1) := by decide +kernel
theorem dX7_luckyDays_55 : decode cX7_luckyDays 55 = .ok (.putfield 65, 3) := by decide +kernel
theorem dX7_luckyDays_58 : decode cX7_luckyDays 58 = .ok (.aload_n 0, 1) := by decide +kernel
theorem dX7_luckyDays_59 : decode cX7_luckyDays 59 = .ok (.getfield 15, 3) := by decide +kernel
theorem dX7_luckyDays_62 : decode cX7_luckyDays 62 = .ok (.invokevirtual 68, 3) := by decide +kernel
theorem dX7_luckyDays_65 : decode cX7_luckyDays 65 = .ok (.iload_n 2, 1) := by decide +kernel
theorem dX7_luckyDays_66 : decode cX7_luckyDays 66 = .ok (.if_icmp .le 6, 3) := by decide +kernel
theorem dX7_luckyDays_69 : decode cX7_luckyDays 69 = .ok (.iinc 4 1, 3) := by decide +kernel
theorem dX7_luckyDays_72 : decode cX7_luckyDays 72 = .ok (.aload_n 0, 1) := by decide +kernel
theorem dX7_luckyDays_73 : decode cX7_luckyDays 73 = .ok (.getfield 15, 3) := by decide +kernel
theorem dX7_luckyDays_76 : decode cX7_luckyDays 76 = .ok (.getfield 65, 3) := by decide +kernel
theorem dX7_luckyDays_79 : decode cX7_luckyDays 79 = .ok (.istore_n 3, 1) := by decide +kernel
theorem dX7_luckyDays_80 : decode cX7_luckyDays 80 = .ok (.iinc 5 1, 3) := by decide +kernel
theorem dX7_luckyDays_83 : decode cX7_luckyDays 83 = .ok (.goto (-50), 3) := by decide +kernel
theorem dX7_luckyDays_86 : decode cX7_luckyDays 86 = .ok (.iload 4, 2) := by decide +kernel
theorem dX7_luckyDays_88 : decode cX7_luckyDays 88 = .ok (.ireturn, 1) := by decide +kernel
set_option maxRecDepth 20000 in
theorem ggX8_init_X6_init : GoodIn wsX8_init wsX6_init := goodIn_r _ [41, 42, 2, 3, 36, 43, 44, 45, 46, 47, 48, 49, 50, 51, 52, 53, 54, 6, 55, 98, 99, 100, 101, 102, 103, 104, 105, 106, 107, 108, 109] (by decide +kernel) (by decide +kernel)
set_option maxRecDepth 20000 in
theorem gX8_init_X6_init : GoodIn wsX8_init (wsX6_init) := ggX8_init_X6_init
set_option maxRecDepth 20000 in
theorem ggX8_init_X7_init : GoodIn wsX8_init wsX7_init := goodIn_r _ [58, 59, 2, 3, 60, 61, 123, 124] (by decide +kernel) (by decide +kernel)
set_option maxRecDepth 20000 in
theorem gX8_init_X7_init : GoodIn wsX8_init (wsX7_init) := ggX8_init_X7_init
set_option maxRecDepth 20000 in
theorem ggX8_init_X2_init : GoodIn wsX8_init wsX2_init := goodIn_r _ [64, 65, 2, 3, 66, 5, 6, 67, 36, 68, 69, 70, 71, 40, 41, 42, 43, 44, 45, 46, 47, 48, 49, 50, 51, 52, 53, 54, 55, 98, 99, 100, 101, 102, 103, 104, 105, 106, 107, 108, 109, 125, 126, 127, 128] (by decide +kernel) (by decide +kernel)
set_option maxRecDepth 20000 in
theorem gX8_init_X2_init : GoodIn wsX8_init (wsX2_init) := ggX8_init_X2_init
set_option maxRecDepth 20000 in
theorem ggX8_init_X4_init : GoodIn wsX8_init wsX4_init := goodIn_r _ [74, 75, 2, 3, 76, 77, 78, 129, 130] (by decide +kernel) (by decide +kernel)
set_option maxRecDepth 20000 in
theorem gX8_init_X4_init : GoodIn wsX8_init (wsX4_init) := ggX8_init_X4_init
set_option maxRecDepth 20000 in
theorem ggX8_init_X5_init : GoodIn wsX8_init wsX5_init := goodIn_r _ [81, 82, 2, 3, 83, 84, 131, 132, 133, 134, 135, 136] (by decide +kernel) (by decide +kernel)
set_option maxRecDepth 20000 in
theorem gX8_init_X5_init : GoodIn wsX8_init (wsX5_init) := ggX8_init_X5_init
set_option maxRecDepth 20000 in
theorem ggX8_init_X0_init : GoodIn wsX8_init wsX0_init := goodIn_r _ [87, 88, 2, 3, 36, 89, 90, 91, 137, 138, 139, 140] (by decide +kernel) (by decide +kernel)
set_option maxRecDepth 20000 in
theorem gX8_init_X0_init : GoodIn wsX8_init (wsX0_init) := ggX8_init_X0_init
set_option maxRecDepth 20000 in
theorem ggX8_init_X1_init : GoodIn wsX8_init wsX1_init := goodIn_r _ [94, 95, 2, 3, 36, 96, 97, 141, 142, 143, 144, 145, 146] (by decide +kernel) (by decide +kernel)
set_option maxRecDepth 20000 in
theorem gX8_init_X1_init : GoodIn wsX8_init (wsX1_init) := ggX8_init_X1_init
theorem dX8_init_0 : decode cX8_init 0 = .ok (.aload_n 0, 1) := by decide +kernel
theorem dX8_init_1 : decode cX8_init 1 = .ok (.invokespecial 1, 3) := by decide +kernel
theorem dX8_init_4 : decode cX8_init 4 = .ok (.aload_n 0, 1) := by decide +kernel
theorem dX8_init_5 : decode cX8_init 5 = .ok (.new 7, 3) := by decide +kernel
theorem dX8_init_8 : decode cX8_init 8 = .ok (.dup, 1) := by decide +kernel
theorem dX8_init_9 : decode cX8_init 9 = .ok (.invokespecial 9, 3) := by decide +kernel
theorem dX8_init_12 : decode cX8_init 12 = .ok (.putfield 10, 3) := by decide +kernel
theorem dX8_init_15 : decode cX8_init 15 = .ok (.aload_n 0, 1) := by decide +kernel
theorem dX8_init_16 : decode cX8_init 16 = .ok (.new 7, 3) := by decide +kernel
theorem dX8_init_19 : decode cX8_init 19 = .ok (.dup, 1) := by decide +kernel
theorem dX8_init_20 : decode cX8_init 20 = .ok (.invokespecial 9, 3) := by decide +kernel
theorem dX8_init_23 : decode cX8_init 23 = .ok (.putfield 16, 3) := by decide +kernel
theorem dX8_init_26 : decode cX8_init 26 = .ok (.aload_n 0, 1) := by decide +kernel
theorem dX8_init_27 : decode cX8_init 27 = .ok (.new 7, 3) := by decide +kernel
theorem dX8_init_30 : decode cX8_init 30 = .ok (.dup, 1) := by decide +kernel
theorem dX8_init_31 : decode cX8_init 31 = .ok (.invokespecial 9, 3) := by decide +kernel
theorem dX8_init_34 : decode cX8_init 34 = .ok (.putfield 19, 3) := by decide +kernel
theorem dX8_init_37 : decode cX8_init 37 = .ok (.aload_n 0, 1) := by decide +kernel
theorem dX8_init_38 : decode cX8_init 38 = .ok (.new 22, 3) := by decide +kernel
theorem dX8_init_41 : decode cX8_init 41 = .ok (.dup, 1) := by decide +kernel
theorem dX8_init_42 : decode cX8_init 42 = .ok (.aload_n 0, 1) := by decide +kernel
theorem dX8_init_43 : decode cX8_init 43 = .ok (.getfield 10, 3) := by decide +kernel
theorem dX8_init_46 : decode cX8_init 46 = .ok (.aload_n 0, 1) := by decide +kernel
theorem dX8_init_47 : decode cX8_init 47 = .ok (.getfield 19, 3) := by decide +kernel
theorem dX8_init_50 : decode cX8_init 50 = .ok (.invokespecial 24, 3) := by decide +kernel
theorem dX8_init_53 : decode cX8_init 53 = .ok (.putfield 27, 3) := by decide +kernel
theorem dX8_init_56 : decode cX8_init 56 = .ok (.aload_n 0, 1) := by decide +kernel
theorem dX8_init_57 : decode cX8_init 57 = .ok (.new 31, 3) := by decide +kernel
theorem dX8_init_60 : decode cX8_init 60 = .ok (.dup, 1) := by decide +kernel
theorem dX8_init_61 : decode cX8_init 61 = .ok (.aload_n 0, 1) := by decide +kernel
theorem dX8_init_62 : decode cX8_init 62 = .ok (.getfield 10, 3) := by decide +kernel
theorem dX8_init_65 : decode cX8_init 65 = .ok (.invokespecial 33, 3) := by decide +kernel
theorem dX8_init_68 : decode cX8_init 68 = .ok (.putfield 36, 3) := by decide +kernel
theorem dX8_init_71 : decode cX8_init 71 = .ok (.aload_n 0, 1) := by decide +kernel
theorem dX8_init_72 : decode cX8_init 72 = .ok (.new 40, 3) := by decide +kernel
theorem dX8_init_75 : decode cX8_init 75 = .ok (.dup, 1) := by decide +kernel
theorem dX8_init_76 : decode cX8_init 76 = .ok (.invokespecial 42, 3) := by decide +kernel
theorem dX8_init_79 : decode cX8_init 79 = .ok (.putfield 43, 3) := by decide +kernel
theorem dX8_init_82 : decode cX8_init 82 = .ok (.aload_n 0, 1) := by decide +kernel
theorem dX8_init_83 : decode cX8_init 83 = .ok (.new 47, 3) := by decide +kernel
theorem dX8_init_86 : decode cX8_init 86 = .ok (.dup, 1) := by decide +kernel
theorem dX8_init_87 : decode cX8_init 87 = .ok (.aload_n 0, 1) := by decide +kernel
theorem dX8_init_88 : decode cX8_init 88 = .ok (.getfield 43, 3) := by decide +kernel
theorem dX8_init_91 : decode cX8_init 91 = .ok (.aload_n 0, 1) := by decide +kernel
theorem dX8_init_92 : decode cX8_init 92 = .ok (.getfield 19, 3) := by decide +kernel
theorem dX8_init_95 : decode cX8_init 95 = .ok (.invokespecial 49, 3) := by decide +kernel
theorem dX8_init_98 : decode cX8_init 98 = .ok (.putfield 52, 3) := by decide +kernel
theorem dX8_init_101 : decode cX8_init 101 = .ok (.aload_n 0, 1) := by decide +kernel
theorem dX8_init_102 : decode cX8_init 102 = .ok (.new 56, 3) := by decide +kernel
theorem dX8_init_105 : decode cX8_init 105 = .ok (.dup, 1) := by decide +kernel
theorem dX8_init_106 : decode cX8_init 106 = .ok (.aload_n 0, 1) := by decide +kernel
theorem dX8_init_107 : decode cX8_init 107 = .ok (.getfield 10, 3) := by decide +kernel
theorem dX8_init_110 : decode cX8_init 110 = .ok (.aload_n 0, 1) := by decide +kernel
theorem dX8_init_111 : decode cX8_init 111 = .ok (.getfield 19, 3) := by decide +kernel
theorem dX8_init_114 : decode cX8_init 114 = .ok (.invokespecial 58, 3) := by decide +kernel
theorem dX8_init_117 : decode cX8_init 117 = .ok (.putfield 59, 3) := by decide +kernel
theorem dX8_init_120 : decode cX8_init 120 = .ok (.aload_n 0, 1) := by decide +kernel
theorem dX8_init_121 : decode cX8_init 121 = .ok (.new 63, 3) := by decide +kernel
theorem dX8_init_124 : decode cX8_init 124 = .ok (.dup, 1) := by decide +kernel
theorem dX8_init_125 : decode cX8_init 125 = .ok (.invokespecial 65, 3) := by decide +kernel
theorem dX8_init_128 : decode cX8_init 128 = .ok (.putfield 66, 3) := by decide +kernel
theorem dX8_init_131 : decode cX8_init 131 = .ok (.aload_n 0, 1) := by decide +kernel
theorem dX8_init_132 : decode cX8_init 132 = .ok (.iconst 4, 1) := by decide +kernel
theorem dX8_init_133 : decode cX8_init 133 = .ok (.anewarray 70, 3) := by decide +kernel
theorem dX8_init_136 : decode cX8_init 136 = .ok (.putfield 72, 3) := by decide +kernel
theorem dX8_init_139 : decode cX8_init 139 = .ok (.aload_n 0, 1) := by decide +kernel
theorem dX8_init_140 : decode cX8_init 140 = .ok (.iconst 4, 1) := by decide +kernel
theorem dX8_init_141 : decode cX8_init 141 = .ok (.newarray .int, 2) := by decide +kernel
theorem dX8_init_143 : decode cX8_init 143 = .ok (.putfield 76, 3) := by decide +kernel
theorem dX8_init_146 : decode cX8_init 146 = .ok (.aload_n 0, 1) := by decide +kernel
theorem dX8_init_147 : decode cX8_init 147 = .ok (.iconst 4, 1) := by decide +kernel
theorem dX8_init_148 : decode cX8_init 148 = .ok (.anewarray 70, 3) := by decide +kernel
theorem dX8_init_151 : decode cX8_init 151 = .ok (.putfield 80, 3) := by decide +kernel
theorem dX8_init_154 : decode cX8_init 154 = .ok (.iconst 0, 1) := by decide +kernel
theorem dX8_init_155 : decode cX8_init 155 = .ok (.istore_n 1, 1) := by decide +kernel
theorem dX8_init_156 : decode cX8_init 156 = .ok (.iload_n 1, 1) := by decide +kernel
theorem dX8_init_157 : decode cX8_init 157 = .ok (.iconst 4, 1) := by decide +kernel
theorem dX8_init_158 : decode cX8_init 158 = .ok (.if_icmp .ge 16, 3) := by decide +kernel
theorem dX8_init_161 : decode cX8_init 161 = .ok (.aload_n 0, 1) := by decide +kernel
theorem dX8_init_162 : decode cX8_init 162 = .ok (.getfield 76, 3) := by decide +kernel
theorem dX8_init_165 : decode cX8_init 165 = .ok (.iload_n 1, 1) := by decide +kernel
theorem dX8_init_166 : decode cX8_init 166 = .ok (.iconst (-1), 1) := by decide +kernel
theorem dX8_init_167 : decode cX8_init 167 = .ok (.iastore, 1) := by decide +kernel
theorem dX8_init_168 : decode cX8_init 168 = .ok (.iinc 1 1, 3) := by decide +kernel
theorem dX8_init_171 : decode cX8_init 171 = .ok (.goto (-15), 3) := by decide +kernel
theorem dX8_init_174 : decode cX8_init 174 = .ok (.return_, 1) := by decide +kernel
set_option maxRecDepth 20000 in
theorem ggX8_feed_X8_within : GoodIn wsX8_feed wsX8_within := goodIn_r _ [6] (by decide +kernel) (by decide +kernel)
set_option maxRecDepth 20000 in
theorem gX8_feed_X8_within : GoodIn wsX8_feed (va_wsS RX8 83 yX8_within wsX8_within) := goodIn_app (goodIn_of _ (by decide +kernel)) ggX8_feed_X8_within
set_option maxRecDepth 20000 in
theorem ggX8_feed_X4_take : GoodIn wsX8_feed wsX4_take := goodIn_r _ [11, 12, 13, 27, 28] (by decide +kernel) (by decide +kernel)
set_option maxRecDepth 20000 in
theorem gX8_feed_X4_take : GoodIn wsX8_feed (wsV RX8 91 RX4 yX4_take wsX4_take) := goodIn_app (goodIn_of _ (by decide +kernel)) ggX8_feed_X4_take
theorem dX8_feed_0 : decode cX8_feed 0 = .ok (.iload_n 3, 1) := by decide +kernel
theorem dX8_feed_1 : decode cX8_feed 1 = .ok (.iconst 1, 1) := by decide +kernel
theorem dX8_feed_2 : decode cX8_feed 2 = .ok (.bipush 8, 2) := by decide +kernel
theorem dX8_feed_4 : decode cX8_feed 4 = .ok (.invokestatic 83, 3) := by decide +kernel
theorem dX8_feed_7 : decode cX8_feed 7 = .ok (.ifCond .ne 5, 3) := by decide +kernel
theorem dX8_feed_10 : decode cX8_feed 10 = .ok (.iconst (-1), 1) := by decide +kernel
theorem dX8_feed_11 : decode cX8_feed 11 = .ok (.ireturn, 1) := by decide +kernel
theorem dX8_feed_12 : decode cX8_feed 12 = .ok (.aload_n 0, 1) := by decide +kernel
theorem dX8_feed_13 : decode cX8_feed 13 = .ok (.getfield 43, 3) := by decide +kernel
theorem dX8_feed_16 : decode cX8_feed 16 = .ok (.getfield 87, 3) := by decide +kernel
theorem dX8_feed_19 : decode cX8_feed 19 = .ok (.iload_n 3, 1) := by decide +kernel
theorem dX8_feed_20 : decode cX8_feed 20 = .ok (.iadd, 1) := by decide +kernel
theorem dX8_feed_21 : decode cX8_feed 21 = .ok (.sipush 200, 3) := by decide +kernel
theorem dX8_feed_24 : decode cX8_feed 24 = .ok (.if_icmp .le 6, 3) := by decide +kernel
theorem dX8_feed_27 : decode cX8_feed 27 = .ok (.bipush (-2), 2) := by decide +kernel
theorem dX8_feed_29 : decode cX8_feed 29 = .ok (.ireturn, 1) := by decide +kernel
theorem dX8_feed_30 : decode cX8_feed 30 = .ok (.aload_n 0, 1) := by decide +kernel
theorem dX8_feed_31 : decode cX8_feed 31 = .ok (.getfield 43, 3) := by decide +kernel
theorem dX8_feed_34 : decode cX8_feed 34 = .ok (.lload_n 1, 1) := by decide +kernel
theorem dX8_feed_35 : decode cX8_feed 35 = .ok (.iload_n 3, 1) := by decide +kernel
theorem dX8_feed_36 : decode cX8_feed 36 = .ok (.invokevirtual 91, 3) := by decide +kernel
theorem dX8_feed_39 : decode cX8_feed 39 = .ok (.aload_n 0, 1) := by decide +kernel
theorem dX8_feed_40 : decode cX8_feed 40 = .ok (.getfield 43, 3) := by decide +kernel
theorem dX8_feed_43 : decode cX8_feed 43 = .ok (.getfield 87, 3) := by decide +kernel
theorem dX8_feed_46 : decode cX8_feed 46 = .ok (.ireturn, 1) := by decide +kernel
set_option maxRecDepth 20000 in
theorem ggX8_town_X6_beginAnew : GoodIn wsX8_town wsX6_beginAnew := goodIn_r _ [15, 16, 17, 18, 19, 20, 21, 22, 14, 23, 24, 186, 187, 188, 189, 190, 191, 192, 193, 194, 195, 196, 197] (by decide +kernel) (by decide +kernel)
set_option maxRecDepth 20000 in
theorem gX8_town_X6_beginAnew : GoodIn wsX8_town (wsV RX8 95 RX6 yX6_beginAnew wsX6_beginAnew) := goodIn_app (goodIn_of _ (by decide +kernel)) ggX8_town_X6_beginAnew
set_option maxRecDepth 20000 in
theorem ggX8_town_X5_readTown : GoodIn wsX8_town wsX5_readTown := goodIn_r _ [29, 30, 31, 32, 33, 34, 28, 35, 36, 37, 38, 39, 40, 41, 42, 43, 44, 45, 46, 47, 48, 49, 50, 51, 52, 53, 54, 55, 56, 57, 58, 59, 60, 61, 62, 63, 64, 65, 66, 67, 68, 69, 70, 71, 72, 73, 74, 75, 76, 77, 78, 79, 80, 81, 82, 83, 84, 85, 86, 87, 88, 89, 90, 91, 92, 93, 94, 95, 96, 97, 98, 99, 100, 101, 102, 103, 104, 105, 106, 107, 108, 109, 110, 111, 112, 113, 114, 115, 116, 117, 118, 119, 120, 121, 122, 123, 124, 125, 126, 127, 128, 14, 129, 130, 131, 132, 133, 134, 135, 136, 137, 138, 139, 140, 141, 142, 143, 16, 144, 145, 146, 147, 148, 149, 150, 151, 152, 153, 154, 155, 156, 157, 158, 159, 160, 161, 162, 163, 200, 201, 202, 203, 204, 205, 198, 199, 186, 187, 188, 189, 190, 191, 192, 193, 194, 195, 196, 197] (by decide +kernel) (by decide +kernel)
set_option maxRecDepth 20000 in
theorem gX8_town_X5_readTown : GoodIn wsX8_town (wsV RX8 101 RX5 yX5_readTown wsX5_readTown) := goodIn_app (goodIn_of _ (by decide +kernel)) ggX8_town_X5_readTown
set_option maxRecDepth 20000 in
theorem ggX8_town_X6_copyFrom : GoodIn wsX8_town wsX6_copyFrom := goodIn_r _ [167, 18, 19, 168, 16, 160, 161, 162, 163, 130, 131, 169, 170, 171, 14, 172, 24, 17, 186, 187, 188, 189, 190, 191, 192, 193, 194, 195, 196, 197] (by decide +kernel) (by decide +kernel)
set_option maxRecDepth 20000 in
theorem gX8_town_X6_copyFrom : GoodIn wsX8_town (wsV RX8 108 RX6 yX6_copyFrom wsX6_copyFrom) := goodIn_app (goodIn_of _ (by decide +kernel)) ggX8_town_X6_copyFrom
theorem dX8_town_0 : decode cX8_town 0 = .ok (.aload_n 0, 1) := by decide +kernel
theorem dX8_town_1 : decode cX8_town 1 = .ok (.getfield 19, 3) := by decide +kernel
theorem dX8_town_4 : decode cX8_town 4 = .ok (.invokevirtual 95, 3) := by decide +kernel
theorem dX8_town_7 : decode cX8_town 7 = .ok (.aload_n 0, 1) := by decide +kernel
theorem dX8_town_8 : decode cX8_town 8 = .ok (.getfield 19, 3) := by decide +kernel
theorem dX8_town_11 : decode cX8_town 11 = .ok (.aload_n 0, 1) := by decide +kernel
theorem dX8_town_12 : decode cX8_town 12 = .ok (.getfield 10, 3) := by decide +kernel
theorem dX8_town_15 : decode cX8_town 15 = .ok (.getfield 98, 3) := by decide +kernel
theorem dX8_town_18 : decode cX8_town 18 = .ok (.putfield 98, 3) := by decide +kernel
theorem dX8_town_21 : decode cX8_town 21 = .ok (.aload_n 0, 1) := by decide +kernel
theorem dX8_town_22 : decode cX8_town 22 = .ok (.getfield 52, 3) := by decide +kernel
theorem dX8_town_25 : decode cX8_town 25 = .ok (.invokevirtual 101, 3) := by decide +kernel
theorem dX8_town_28 : decode cX8_town 28 = .ok (.istore_n 1, 1) := by decide +kernel
theorem dX8_town_29 : decode cX8_town 29 = .ok (.aload_n 0, 1) := by decide +kernel
theorem dX8_town_30 : decode cX8_town 30 = .ok (.getfield 43, 3) := by decide +kernel
theorem dX8_town_33 : decode cX8_town 33 = .ok (.iconst 0, 1) := by decide +kernel
theorem dX8_town_34 : decode cX8_town 34 = .ok (.putfield 87, 3) := by decide +kernel
theorem dX8_town_37 : decode cX8_town 37 = .ok (.iload_n 1, 1) := by decide +kernel
theorem dX8_town_38 : decode cX8_town 38 = .ok (.ifCond .ne 14, 3) := by decide +kernel
theorem dX8_town_41 : decode cX8_town 41 = .ok (.bipush (-100), 2) := by decide +kernel
theorem dX8_town_43 : decode cX8_town 43 = .ok (.aload_n 0, 1) := by decide +kernel
theorem dX8_town_44 : decode cX8_town 44 = .ok (.getfield 52, 3) := by decide +kernel
theorem dX8_town_47 : decode cX8_town 47 = .ok (.getfield 105, 3) := by decide +kernel
theorem dX8_town_50 : decode cX8_town 50 = .ok (.isub, 1) := by decide +kernel
theorem dX8_town_51 : decode cX8_town 51 = .ok (.ireturn, 1) := by decide +kernel
theorem dX8_town_52 : decode cX8_town 52 = .ok (.aload_n 0, 1) := by decide +kernel
theorem dX8_town_53 : decode cX8_town 53 = .ok (.getfield 10, 3) := by decide +kernel
theorem dX8_town_56 : decode cX8_town 56 = .ok (.aload_n 0, 1) := by decide +kernel
theorem dX8_town_57 : decode cX8_town 57 = .ok (.getfield 19, 3) := by decide +kernel
theorem dX8_town_60 : decode cX8_town 60 = .ok (.invokevirtual 108, 3) := by decide +kernel
theorem dX8_town_63 : decode cX8_town 63 = .ok (.aload_n 0, 1) := by decide +kernel
theorem dX8_town_64 : decode cX8_town 64 = .ok (.getfield 59, 3) := by decide +kernel
theorem dX8_town_67 : decode cX8_town 67 = .ok (.iconst 0, 1) := by decide +kernel
theorem dX8_town_68 : decode cX8_town 68 = .ok (.putfield 111, 3) := by decide +kernel
theorem dX8_town_71 : decode cX8_town 71 = .ok (.aload_n 0, 1) := by decide +kernel
theorem dX8_town_72 : decode cX8_town 72 = .ok (.getfield 10, 3) := by decide +kernel
theorem dX8_town_75 : decode cX8_town 75 = .ok (.getfield 114, 3) := by decide +kernel
theorem dX8_town_78 : decode cX8_town 78 = .ok (.ireturn, 1) := by decide +kernel
set_option maxRecDepth 20000 in
theorem ggX8_set_X8_isLaw : GoodIn wsX8_set wsX8_isLaw := goodIn_r _ [6, 7, 8, 5, 9] (by decide +kernel) (by decide +kernel)
set_option maxRecDepth 20000 in
theorem gX8_set_X8_isLaw : GoodIn wsX8_set (va_wsS RX8 115 yX8_isLaw wsX8_isLaw) := goodIn_app (goodIn_of _ (by decide +kernel)) ggX8_set_X8_isLaw
set_option maxRecDepth 20000 in
theorem ggX8_set_X8_mostOfLaw : GoodIn wsX8_set wsX8_mostOfLaw := goodIn_r _ [12] (by decide +kernel) (by decide +kernel)
set_option maxRecDepth 20000 in
theorem gX8_set_X8_mostOfLaw : GoodIn wsX8_set (va_wsS RX8 119 yX8_mostOfLaw wsX8_mostOfLaw) := goodIn_app (goodIn_of _ (by decide +kernel)) ggX8_set_X8_mostOfLaw
set_option maxRecDepth 20000 in
theorem ggX8_set_X8_within : GoodIn wsX8_set wsX8_within := goodIn_r _ [9] (by decide +kernel) (by decide +kernel)
set_option maxRecDepth 20000 in
theorem gX8_set_X8_within : GoodIn wsX8_set (va_wsS RX8 83 yX8_within wsX8_within) := goodIn_app (goodIn_of _ (by decide +kernel)) ggX8_set_X8_within
theorem dX8_set_0 : decode cX8_set 0 = .ok (.iload_n 1, 1) := by decide +kernel
theorem dX8_set_1 : decode cX8_set 1 = .ok (.invokestatic 115, 3) := by decide +kernel
theorem dX8_set_4 : decode cX8_set 4 = .ok (.ifCond .eq 15, 3) := by decide +kernel
theorem dX8_set_7 : decode cX8_set 7 = .ok (.iload_n 2, 1) := by decide +kernel
theorem dX8_set_8 : decode cX8_set 8 = .ok (.iconst 0, 1) := by decide +kernel
theorem dX8_set_9 : decode cX8_set 9 = .ok (.iload_n 1, 1) := by decide +kernel
theorem dX8_set_10 : decode cX8_set 10 = .ok (.invokestatic 119, 3) := by decide +kernel
theorem dX8_set_13 : decode cX8_set 13 = .ok (.invokestatic 83, 3) := by decide +kernel
theorem dX8_set_16 : decode cX8_set 16 = .ok (.ifCond .ne 5, 3) := by decide +kernel
theorem dX8_set_19 : decode cX8_set 19 = .ok (.iconst (-1), 1) := by decide +kernel
theorem dX8_set_20 : decode cX8_set 20 = .ok (.ireturn, 1) := by decide +kernel
theorem dX8_set_21 : decode cX8_set 21 = .ok (.aload_n 0, 1) := by decide +kernel
theorem dX8_set_22 : decode cX8_set 22 = .ok (.getfield 10, 3) := by decide +kernel
theorem dX8_set_25 : decode cX8_set 25 = .ok (.getfield 123, 3) := by decide +kernel
theorem dX8_set_28 : decode cX8_set 28 = .ok (.iload_n 1, 1) := by decide +kernel
theorem dX8_set_29 : decode cX8_set 29 = .ok (.iaload, 1) := by decide +kernel
theorem dX8_set_30 : decode cX8_set 30 = .ok (.istore_n 3, 1) := by decide +kernel
theorem dX8_set_31 : decode cX8_set 31 = .ok (.aload_n 0, 1) := by decide +kernel
theorem dX8_set_32 : decode cX8_set 32 = .ok (.getfield 10, 3) := by decide +kernel
theorem dX8_set_35 : decode cX8_set 35 = .ok (.getfield 123, 3) := by decide +kernel
theorem dX8_set_38 : decode cX8_set 38 = .ok (.iload_n 1, 1) := by decide +kernel
theorem dX8_set_39 : decode cX8_set 39 = .ok (.iload_n 2, 1) := by decide +kernel
theorem dX8_set_40 : decode cX8_set 40 = .ok (.iastore, 1) := by decide +kernel
theorem dX8_set_41 : decode cX8_set 41 = .ok (.iload_n 3, 1) := by decide +kernel
theorem dX8_set_42 : decode cX8_set 42 = .ok (.ireturn, 1) := by decide +kernel
set_option maxRecDepth 20000 in
theorem ggX8_lawOf_X8_isLaw : GoodIn wsX8_lawOf wsX8_isLaw := goodIn_r _ [6, 7, 8, 5, 9] (by decide +kernel) (by decide +kernel)
set_option maxRecDepth 20000 in
theorem gX8_lawOf_X8_isLaw : GoodIn wsX8_lawOf (va_wsS RX8 115 yX8_isLaw wsX8_isLaw) := goodIn_app (goodIn_of _ (by decide +kernel)) ggX8_lawOf_X8_isLaw
theorem dX8_lawOf_0 : decode cX8_lawOf 0 = .ok (.iload_n 1, 1) := by decide +kernel
theorem dX8_lawOf_1 : decode cX8_lawOf 1 = .ok (.invokestatic 115, 3) := by decide +kernel
theorem dX8_lawOf_4 : decode cX8_lawOf 4 = .ok (.ifCond .eq 15, 3) := by decide +kernel
theorem dX8_lawOf_7 : decode cX8_lawOf 7 = .ok (.aload_n 0, 1) := by decide +kernel
theorem dX8_lawOf_8 : decode cX8_lawOf 8 = .ok (.getfield 10, 3) := by decide +kernel
theorem dX8_lawOf_11 : decode cX8_lawOf 11 = .ok (.getfield 123, 3) := by decide +kernel
theorem dX8_lawOf_14 : decode cX8_lawOf 14 = .ok (.iload_n 1, 1) := by decide +kernel
theorem dX8_lawOf_15 : decode cX8_lawOf 15 = .ok (.iaload, 1) := by decide +kernel
theorem dX8_lawOf_16 : decode cX8_lawOf 16 = .ok (.goto 4, 3) := by decide +kernel
theorem dX8_lawOf_19 : decode cX8_lawOf 19 = .ok (.iconst (-1), 1) := by decide +kernel
theorem dX8_lawOf_20 : decode cX8_lawOf 20 = .ok (.ireturn, 1) := by decide +kernel
set_option maxRecDepth 20000 in
theorem ggX8_person_X8_isKind : GoodIn wsX8_person wsX8_isKind := goodIn_r _ [6, 7, 8, 5, 9] (by decide +kernel) (by decide +kernel)
set_option maxRecDepth 20000 in
theorem gX8_person_X8_isKind : GoodIn wsX8_person (va_wsS RX8 126 yX8_isKind wsX8_isKind) := goodIn_app (goodIn_of _ (by decide +kernel)) ggX8_person_X8_isKind
set_option maxRecDepth 20000 in
theorem ggX8_person_X8_isVoice : GoodIn wsX8_person wsX8_isVoice := goodIn_r _ [12, 7, 8, 5, 9] (by decide +kernel) (by decide +kernel)
set_option maxRecDepth 20000 in
theorem gX8_person_X8_isVoice : GoodIn wsX8_person (va_wsS RX8 129 yX8_isVoice wsX8_isVoice) := goodIn_app (goodIn_of _ (by decide +kernel)) ggX8_person_X8_isVoice
set_option maxRecDepth 20000 in
theorem ggX8_person_X8_within : GoodIn wsX8_person wsX8_within := goodIn_r _ [9] (by decide +kernel) (by decide +kernel)
set_option maxRecDepth 20000 in
theorem gX8_person_X8_within : GoodIn wsX8_person (va_wsS RX8 83 yX8_within wsX8_within) := goodIn_app (goodIn_of _ (by decide +kernel)) ggX8_person_X8_within
set_option maxRecDepth 20000 in
theorem ggX8_person_X6_add : GoodIn wsX8_person wsX6_add := goodIn_r _ [17, 18, 19, 20, 21, 22, 23, 24, 25, 16, 26, 27, 28, 42, 43, 44, 45, 46, 47, 48, 49, 50, 51, 52, 53] (by decide +kernel) (by decide +kernel)
set_option maxRecDepth 20000 in
theorem gX8_person_X6_add : GoodIn wsX8_person (wsV RX8 132 RX6 yX6_add wsX6_add) := goodIn_app (goodIn_of _ (by decide +kernel)) ggX8_person_X6_add
theorem dX8_person_0 : decode cX8_person 0 = .ok (.iload_n 1, 1) := by decide +kernel
theorem dX8_person_1 : decode cX8_person 1 = .ok (.invokestatic 126, 3) := by decide +kernel
theorem dX8_person_4 : decode cX8_person 4 = .ok (.ifCond .eq 11, 3) := by decide +kernel
theorem dX8_person_7 : decode cX8_person 7 = .ok (.iload 4, 2) := by decide +kernel
theorem dX8_person_9 : decode cX8_person 9 = .ok (.invokestatic 129, 3) := by decide +kernel
theorem dX8_person_12 : decode cX8_person 12 = .ok (.ifCond .ne 5, 3) := by decide +kernel
theorem dX8_person_15 : decode cX8_person 15 = .ok (.iconst (-1), 1) := by decide +kernel
theorem dX8_person_16 : decode cX8_person 16 = .ok (.ireturn, 1) := by decide +kernel
theorem dX8_person_17 : decode cX8_person 17 = .ok (.iload_n 2, 1) := by decide +kernel
theorem dX8_person_18 : decode cX8_person 18 = .ok (.iconst 0, 1) := by decide +kernel
theorem dX8_person_19 : decode cX8_person 19 = .ok (.bipush 99, 2) := by decide +kernel
theorem dX8_person_21 : decode cX8_person 21 = .ok (.invokestatic 83, 3) := by decide +kernel
theorem dX8_person_24 : decode cX8_person 24 = .ok (.ifCond .eq 13, 3) := by decide +kernel
theorem dX8_person_27 : decode cX8_person 27 = .ok (.iload_n 3, 1) := by decide +kernel
theorem dX8_person_28 : decode cX8_person 28 = .ok (.iconst 0, 1) := by decide +kernel
theorem dX8_person_29 : decode cX8_person 29 = .ok (.bipush 99, 2) := by decide +kernel
theorem dX8_person_31 : decode cX8_person 31 = .ok (.invokestatic 83, 3) := by decide +kernel
theorem dX8_person_34 : decode cX8_person 34 = .ok (.ifCond .ne 5, 3) := by decide +kernel
theorem dX8_person_37 : decode cX8_person 37 = .ok (.iconst (-1), 1) := by decide +kernel
theorem dX8_person_38 : decode cX8_person 38 = .ok (.ireturn, 1) := by decide +kernel
theorem dX8_person_39 : decode cX8_person 39 = .ok (.aload_n 0, 1) := by decide +kernel
theorem dX8_person_40 : decode cX8_person 40 = .ok (.getfield 10, 3) := by decide +kernel
theorem dX8_person_43 : decode cX8_person 43 = .ok (.getfield 114, 3) := by decide +kernel
theorem dX8_person_46 : decode cX8_person 46 = .ok (.bipush 8, 2) := by decide +kernel
theorem dX8_person_48 : decode cX8_person 48 = .ok (.if_icmp .lt 6, 3) := by decide +kernel
theorem dX8_person_51 : decode cX8_person 51 = .ok (.bipush (-2), 2) := by decide +kernel
theorem dX8_person_53 : decode cX8_person 53 = .ok (.ireturn, 1) := by decide +kernel
theorem dX8_person_54 : decode cX8_person 54 = .ok (.aload_n 0, 1) := by decide +kernel
theorem dX8_person_55 : decode cX8_person 55 = .ok (.getfield 10, 3) := by decide +kernel
theorem dX8_person_58 : decode cX8_person 58 = .ok (.iload_n 1, 1) := by decide +kernel
theorem dX8_person_59 : decode cX8_person 59 = .ok (.iload_n 2, 1) := by decide +kernel
theorem dX8_person_60 : decode cX8_person 60 = .ok (.iload_n 3, 1) := by decide +kernel
theorem dX8_person_61 : decode cX8_person 61 = .ok (.iload 4, 2) := by decide +kernel
theorem dX8_person_63 : decode cX8_person 63 = .ok (.invokevirtual 132, 3) := by decide +kernel
theorem dX8_person_66 : decode cX8_person 66 = .ok (.aload_n 0, 1) := by decide +kernel
theorem dX8_person_67 : decode cX8_person 67 = .ok (.getfield 10, 3) := by decide +kernel
theorem dX8_person_70 : decode cX8_person 70 = .ok (.getfield 114, 3) := by decide +kernel
theorem dX8_person_73 : decode cX8_person 73 = .ok (.iconst 1, 1) := by decide +kernel
theorem dX8_person_74 : decode cX8_person 74 = .ok (.isub, 1) := by decide +kernel
theorem dX8_person_75 : decode cX8_person 75 = .ok (.ireturn, 1) := by decide +kernel
set_option maxRecDepth 20000 in
theorem ggX8_of_X6_has : GoodIn wsX8_of wsX6_has := goodIn_r _ [12, 13, 27, 28, 29, 30, 31, 32, 33, 34, 35, 36, 37, 38] (by decide +kernel) (by decide +kernel)
set_option maxRecDepth 20000 in
theorem gX8_of_X6_has : GoodIn wsX8_of (wsV RX8 136 RX6 yX6_has wsX6_has) := goodIn_app (goodIn_of _ (by decide +kernel)) ggX8_of_X6_has
theorem dX8_of_0 : decode cX8_of 0 = .ok (.aload_n 0, 1) := by decide +kernel
theorem dX8_of_1 : decode cX8_of 1 = .ok (.getfield 10, 3) := by decide +kernel
theorem dX8_of_4 : decode cX8_of 4 = .ok (.iload_n 1, 1) := by decide +kernel
theorem dX8_of_5 : decode cX8_of 5 = .ok (.invokevirtual 136, 3) := by decide +kernel
theorem dX8_of_8 : decode cX8_of 8 = .ok (.ifCond .ne 5, 3) := by decide +kernel
theorem dX8_of_11 : decode cX8_of 11 = .ok (.iconst (-1), 1) := by decide +kernel
theorem dX8_of_12 : decode cX8_of 12 = .ok (.ireturn, 1) := by decide +kernel
theorem dX8_of_13 : decode cX8_of 13 = .ok (.iload_n 2, 1) := by decide +kernel
theorem dX8_of_14 : decode cX8_of 14 = .ok (.tableswitch 108 0 5 #[38, 48, 58, 68, 78, 90], 38) := by decide +kernel
theorem dX8_of_52 : decode cX8_of 52 = .ok (.aload_n 0, 1) := by decide +kernel
theorem dX8_of_53 : decode cX8_of 53 = .ok (.getfield 10, 3) := by decide +kernel
theorem dX8_of_56 : decode cX8_of 56 = .ok (.getfield 139, 3) := by decide +kernel
theorem dX8_of_59 : decode cX8_of 59 = .ok (.iload_n 1, 1) := by decide +kernel
theorem dX8_of_60 : decode cX8_of 60 = .ok (.iaload, 1) := by decide +kernel
theorem dX8_of_61 : decode cX8_of 61 = .ok (.ireturn, 1) := by decide +kernel
theorem dX8_of_62 : decode cX8_of 62 = .ok (.aload_n 0, 1) := by decide +kernel
theorem dX8_of_63 : decode cX8_of 63 = .ok (.getfield 10, 3) := by decide +kernel
theorem dX8_of_66 : decode cX8_of 66 = .ok (.getfield 142, 3) := by decide +kernel
theorem dX8_of_69 : decode cX8_of 69 = .ok (.iload_n 1, 1) := by decide +kernel
theorem dX8_of_70 : decode cX8_of 70 = .ok (.iaload, 1) := by decide +kernel
theorem dX8_of_71 : decode cX8_of 71 = .ok (.ireturn, 1) := by decide +kernel
theorem dX8_of_72 : decode cX8_of 72 = .ok (.aload_n 0, 1) := by decide +kernel
theorem dX8_of_73 : decode cX8_of 73 = .ok (.getfield 10, 3) := by decide +kernel
theorem dX8_of_76 : decode cX8_of 76 = .ok (.getfield 145, 3) := by decide +kernel
theorem dX8_of_79 : decode cX8_of 79 = .ok (.iload_n 1, 1) := by decide +kernel
theorem dX8_of_80 : decode cX8_of 80 = .ok (.iaload, 1) := by decide +kernel
theorem dX8_of_81 : decode cX8_of 81 = .ok (.ireturn, 1) := by decide +kernel
theorem dX8_of_82 : decode cX8_of 82 = .ok (.aload_n 0, 1) := by decide +kernel
theorem dX8_of_83 : decode cX8_of 83 = .ok (.getfield 10, 3) := by decide +kernel
theorem dX8_of_86 : decode cX8_of 86 = .ok (.getfield 148, 3) := by decide +kernel
theorem dX8_of_89 : decode cX8_of 89 = .ok (.iload_n 1, 1) := by decide +kernel
theorem dX8_of_90 : decode cX8_of 90 = .ok (.iaload, 1) := by decide +kernel
theorem dX8_of_91 : decode cX8_of 91 = .ok (.ireturn, 1) := by decide +kernel
theorem dX8_of_92 : decode cX8_of 92 = .ok (.aload_n 0, 1) := by decide +kernel
theorem dX8_of_93 : decode cX8_of 93 = .ok (.getfield 10, 3) := by decide +kernel
theorem dX8_of_96 : decode cX8_of 96 = .ok (.getfield 151, 3) := by decide +kernel
theorem dX8_of_99 : decode cX8_of 99 = .ok (.iload_n 1, 1) := by decide +kernel
theorem dX8_of_100 : decode cX8_of 100 = .ok (.iaload, 1) := by decide +kernel
theorem dX8_of_101 : decode cX8_of 101 = .ok (.iconst 1, 1) := by decide +kernel
theorem dX8_of_102 : decode cX8_of 102 = .ok (.iadd, 1) := by decide +kernel
theorem dX8_of_103 : decode cX8_of 103 = .ok (.ireturn, 1) := by decide +kernel
theorem dX8_of_104 : decode cX8_of 104 = .ok (.aload_n 0, 1) := by decide +kernel
theorem dX8_of_105 : decode cX8_of 105 = .ok (.getfield 10, 3) := by decide +kernel
theorem dX8_of_108 : decode cX8_of 108 = .ok (.getfield 154, 3) := by decide +kernel
theorem dX8_of_111 : decode cX8_of 111 = .ok (.iload_n 1, 1) := by decide +kernel
theorem dX8_of_112 : decode cX8_of 112 = .ok (.baload, 1) := by decide +kernel
theorem dX8_of_113 : decode cX8_of 113 = .ok (.ifCond .eq 7, 3) := by decide +kernel
theorem dX8_of_116 : decode cX8_of 116 = .ok (.iconst 1, 1) := by decide +kernel
theorem dX8_of_117 : decode cX8_of 117 = .ok (.goto 4, 3) := by decide +kernel
theorem dX8_of_120 : decode cX8_of 120 = .ok (.iconst 0, 1) := by decide +kernel
theorem dX8_of_121 : decode cX8_of 121 = .ok (.ireturn, 1) := by decide +kernel
theorem dX8_of_122 : decode cX8_of 122 = .ok (.iconst (-1), 1) := by decide +kernel
theorem dX8_of_123 : decode cX8_of 123 = .ok (.ireturn, 1) := by decide +kernel
set_option maxRecDepth 20000 in
theorem ggX8_does_X6_has : GoodIn wsX8_does wsX6_has := goodIn_r _ [6, 7, 42, 43, 44, 45, 46, 47, 48, 49, 50, 51, 52, 53] (by decide +kernel) (by decide +kernel)
set_option maxRecDepth 20000 in
theorem gX8_does_X6_has : GoodIn wsX8_does (wsV RX8 136 RX6 yX6_has wsX6_has) := goodIn_app (goodIn_of _ (by decide +kernel)) ggX8_does_X6_has
set_option maxRecDepth 20000 in
theorem ggX8_does_X6_saysOf : GoodIn wsX8_does wsX6_saysOf := goodIn_r _ [11, 12, 13, 14, 15, 16, 17, 18, 19, 20, 42, 43, 44, 45, 46, 47, 48, 49, 50, 51, 52, 53] (by decide +kernel) (by decide +kernel)
set_option maxRecDepth 20000 in
theorem gX8_does_X6_saysOf : GoodIn wsX8_does (wsV RX8 158 RX6 yX6_saysOf wsX6_saysOf) := goodIn_app (goodIn_of _ (by decide +kernel)) ggX8_does_X6_saysOf
set_option maxRecDepth 20000 in
theorem ggX8_does_X6_growsOf : GoodIn wsX8_does wsX6_growsOf := goodIn_r _ [24, 14, 12, 13, 42, 43, 44, 45, 46, 47, 48, 49, 50, 51, 52, 53] (by decide +kernel) (by decide +kernel)
set_option maxRecDepth 20000 in
theorem gX8_does_X6_growsOf : GoodIn wsX8_does (wsV RX8 161 RX6 yX6_growsOf wsX6_growsOf) := goodIn_app (goodIn_of _ (by decide +kernel)) ggX8_does_X6_growsOf
set_option maxRecDepth 20000 in
theorem ggX8_does_X6_savesOf : GoodIn wsX8_does wsX6_savesOf := goodIn_r _ [28, 12, 14, 20, 42, 43, 44, 45, 46, 47, 48, 49, 50, 51, 52, 53] (by decide +kernel) (by decide +kernel)
set_option maxRecDepth 20000 in
theorem gX8_does_X6_savesOf : GoodIn wsX8_does (wsV RX8 164 RX6 yX6_savesOf wsX6_savesOf) := goodIn_app (goodIn_of _ (by decide +kernel)) ggX8_does_X6_savesOf
theorem dX8_does_0 : decode cX8_does 0 = .ok (.aload_n 0, 1) := by decide +kernel
theorem dX8_does_1 : decode cX8_does 1 = .ok (.getfield 10, 3) := by decide +kernel
theorem dX8_does_4 : decode cX8_does 4 = .ok (.iload_n 1, 1) := by decide +kernel
theorem dX8_does_5 : decode cX8_does 5 = .ok (.invokevirtual 136, 3) := by decide +kernel
theorem dX8_does_8 : decode cX8_does 8 = .ok (.ifCond .ne 5, 3) := by decide +kernel
theorem dX8_does_11 : decode cX8_does 11 = .ok (.iconst (-1), 1) := by decide +kernel
theorem dX8_does_12 : decode cX8_does 12 = .ok (.ireturn, 1) := by decide +kernel
theorem dX8_does_13 : decode cX8_does 13 = .ok (.iload_n 2, 1) := by decide +kernel
theorem dX8_does_14 : decode cX8_does 14 = .ok (.tableswitch 65 0 2 #[26, 39, 52], 26) := by decide +kernel
theorem dX8_does_40 : decode cX8_does 40 = .ok (.sipush 1000, 3) := by decide +kernel
theorem dX8_does_43 : decode cX8_does 43 = .ok (.aload_n 0, 1) := by decide +kernel
theorem dX8_does_44 : decode cX8_does 44 = .ok (.getfield 10, 3) := by decide +kernel
theorem dX8_does_47 : decode cX8_does 47 = .ok (.iload_n 1, 1) := by decide +kernel
theorem dX8_does_48 : decode cX8_does 48 = .ok (.invokevirtual 158, 3) := by decide +kernel
theorem dX8_does_51 : decode cX8_does 51 = .ok (.iadd, 1) := by decide +kernel
theorem dX8_does_52 : decode cX8_does 52 = .ok (.ireturn, 1) := by decide +kernel
theorem dX8_does_53 : decode cX8_does 53 = .ok (.sipush 1000, 3) := by decide +kernel
theorem dX8_does_56 : decode cX8_does 56 = .ok (.aload_n 0, 1) := by decide +kernel
theorem dX8_does_57 : decode cX8_does 57 = .ok (.getfield 10, 3) := by decide +kernel
theorem dX8_does_60 : decode cX8_does 60 = .ok (.iload_n 1, 1) := by decide +kernel
theorem dX8_does_61 : decode cX8_does 61 = .ok (.invokevirtual 161, 3) := by decide +kernel
theorem dX8_does_64 : decode cX8_does 64 = .ok (.iadd, 1) := by decide +kernel
theorem dX8_does_65 : decode cX8_does 65 = .ok (.ireturn, 1) := by decide +kernel
theorem dX8_does_66 : decode cX8_does 66 = .ok (.sipush 1000, 3) := by decide +kernel
theorem dX8_does_69 : decode cX8_does 69 = .ok (.aload_n 0, 1) := by decide +kernel
theorem dX8_does_70 : decode cX8_does 70 = .ok (.getfield 10, 3) := by decide +kernel
theorem dX8_does_73 : decode cX8_does 73 = .ok (.iload_n 1, 1) := by decide +kernel
theorem dX8_does_74 : decode cX8_does 74 = .ok (.invokevirtual 164, 3) := by decide +kernel
theorem dX8_does_77 : decode cX8_does 77 = .ok (.iadd, 1) := by decide +kernel
theorem dX8_does_78 : decode cX8_does 78 = .ok (.ireturn, 1) := by decide +kernel
theorem dX8_does_79 : decode cX8_does 79 = .ok (.iconst (-1), 1) := by decide +kernel
theorem dX8_does_80 : decode cX8_does 80 = .ok (.ireturn, 1) := by decide +kernel
set_option maxRecDepth 20000 in
theorem ggX8_mind_X6_has : GoodIn wsX8_mind wsX6_has := goodIn_r _ [8, 9, 33, 34, 35, 36, 37, 38, 39, 40, 41, 42, 43, 44] (by decide +kernel) (by decide +kernel)
set_option maxRecDepth 20000 in
theorem gX8_mind_X6_has : GoodIn wsX8_mind (wsV RX8 136 RX6 yX6_has wsX6_has) := goodIn_app (goodIn_of _ (by decide +kernel)) ggX8_mind_X6_has
set_option maxRecDepth 20000 in
theorem ggX8_mind_X8_isKind : GoodIn wsX8_mind wsX8_isKind := goodIn_r _ [13, 14, 15, 12, 16] (by decide +kernel) (by decide +kernel)
set_option maxRecDepth 20000 in
theorem gX8_mind_X8_isKind : GoodIn wsX8_mind (va_wsS RX8 126 yX8_isKind wsX8_isKind) := goodIn_app (goodIn_of _ (by decide +kernel)) ggX8_mind_X8_isKind
set_option maxRecDepth 20000 in
theorem ggX8_mind_X8_isVoice : GoodIn wsX8_mind wsX8_isVoice := goodIn_r _ [19, 14, 15, 12, 16] (by decide +kernel) (by decide +kernel)
set_option maxRecDepth 20000 in
theorem gX8_mind_X8_isVoice : GoodIn wsX8_mind (va_wsS RX8 129 yX8_isVoice wsX8_isVoice) := goodIn_app (goodIn_of _ (by decide +kernel)) ggX8_mind_X8_isVoice
theorem dX8_mind_0 : decode cX8_mind 0 = .ok (.aload_n 0, 1) := by decide +kernel
theorem dX8_mind_1 : decode cX8_mind 1 = .ok (.getfield 10, 3) := by decide +kernel
theorem dX8_mind_4 : decode cX8_mind 4 = .ok (.iload_n 1, 1) := by decide +kernel
theorem dX8_mind_5 : decode cX8_mind 5 = .ok (.invokevirtual 136, 3) := by decide +kernel
theorem dX8_mind_8 : decode cX8_mind 8 = .ok (.ifCond .eq 17, 3) := by decide +kernel
theorem dX8_mind_11 : decode cX8_mind 11 = .ok (.iload_n 2, 1) := by decide +kernel
theorem dX8_mind_12 : decode cX8_mind 12 = .ok (.invokestatic 126, 3) := by decide +kernel
theorem dX8_mind_15 : decode cX8_mind 15 = .ok (.ifCond .eq 10, 3) := by decide +kernel
theorem dX8_mind_18 : decode cX8_mind 18 = .ok (.iload_n 3, 1) := by decide +kernel
theorem dX8_mind_19 : decode cX8_mind 19 = .ok (.invokestatic 129, 3) := by decide +kernel
theorem dX8_mind_22 : decode cX8_mind 22 = .ok (.ifCond .ne 5, 3) := by decide +kernel
theorem dX8_mind_25 : decode cX8_mind 25 = .ok (.iconst (-1), 1) := by decide +kernel
theorem dX8_mind_26 : decode cX8_mind 26 = .ok (.ireturn, 1) := by decide +kernel
theorem dX8_mind_27 : decode cX8_mind 27 = .ok (.aload_n 0, 1) := by decide +kernel
theorem dX8_mind_28 : decode cX8_mind 28 = .ok (.getfield 10, 3) := by decide +kernel
theorem dX8_mind_31 : decode cX8_mind 31 = .ok (.getfield 139, 3) := by decide +kernel
theorem dX8_mind_34 : decode cX8_mind 34 = .ok (.iload_n 1, 1) := by decide +kernel
theorem dX8_mind_35 : decode cX8_mind 35 = .ok (.iaload, 1) := by decide +kernel
theorem dX8_mind_36 : decode cX8_mind 36 = .ok (.istore 4, 2) := by decide +kernel
theorem dX8_mind_38 : decode cX8_mind 38 = .ok (.aload_n 0, 1) := by decide +kernel
theorem dX8_mind_39 : decode cX8_mind 39 = .ok (.getfield 10, 3) := by decide +kernel
theorem dX8_mind_42 : decode cX8_mind 42 = .ok (.getfield 139, 3) := by decide +kernel
theorem dX8_mind_45 : decode cX8_mind 45 = .ok (.iload_n 1, 1) := by decide +kernel
theorem dX8_mind_46 : decode cX8_mind 46 = .ok (.iload_n 2, 1) := by decide +kernel
theorem dX8_mind_47 : decode cX8_mind 47 = .ok (.iastore, 1) := by decide +kernel
theorem dX8_mind_48 : decode cX8_mind 48 = .ok (.aload_n 0, 1) := by decide +kernel
theorem dX8_mind_49 : decode cX8_mind 49 = .ok (.getfield 10, 3) := by decide +kernel
theorem dX8_mind_52 : decode cX8_mind 52 = .ok (.getfield 148, 3) := by decide +kernel
theorem dX8_mind_55 : decode cX8_mind 55 = .ok (.iload_n 1, 1) := by decide +kernel
theorem dX8_mind_56 : decode cX8_mind 56 = .ok (.iload_n 3, 1) := by decide +kernel
theorem dX8_mind_57 : decode cX8_mind 57 = .ok (.iastore, 1) := by decide +kernel
theorem dX8_mind_58 : decode cX8_mind 58 = .ok (.iload 4, 2) := by decide +kernel
theorem dX8_mind_60 : decode cX8_mind 60 = .ok (.ireturn, 1) := by decide +kernel
set_option maxRecDepth 20000 in
theorem ggX8_change_X6_has : GoodIn wsX8_change wsX6_has := goodIn_r _ [8, 9, 27, 28, 29, 30, 31, 32, 33, 34, 35, 36, 37, 38] (by decide +kernel) (by decide +kernel)
set_option maxRecDepth 20000 in
theorem gX8_change_X6_has : GoodIn wsX8_change (wsV RX8 136 RX6 yX6_has wsX6_has) := goodIn_app (goodIn_of _ (by decide +kernel)) ggX8_change_X6_has
set_option maxRecDepth 20000 in
theorem ggX8_change_X8_within : GoodIn wsX8_change wsX8_within := goodIn_r _ [13] (by decide +kernel) (by decide +kernel)
set_option maxRecDepth 20000 in
theorem gX8_change_X8_within : GoodIn wsX8_change (va_wsS RX8 83 yX8_within wsX8_within) := goodIn_app (goodIn_of _ (by decide +kernel)) ggX8_change_X8_within
theorem dX8_change_0 : decode cX8_change 0 = .ok (.aload_n 0, 1) := by decide +kernel
theorem dX8_change_1 : decode cX8_change 1 = .ok (.getfield 10, 3) := by decide +kernel
theorem dX8_change_4 : decode cX8_change 4 = .ok (.iload_n 1, 1) := by decide +kernel
theorem dX8_change_5 : decode cX8_change 5 = .ok (.invokevirtual 136, 3) := by decide +kernel
theorem dX8_change_8 : decode cX8_change 8 = .ok (.ifCond .ne 5, 3) := by decide +kernel
theorem dX8_change_11 : decode cX8_change 11 = .ok (.iconst (-1), 1) := by decide +kernel
theorem dX8_change_12 : decode cX8_change 12 = .ok (.ireturn, 1) := by decide +kernel
theorem dX8_change_13 : decode cX8_change 13 = .ok (.iload_n 2, 1) := by decide +kernel
theorem dX8_change_14 : decode cX8_change 14 = .ok (.iconst 1, 1) := by decide +kernel
theorem dX8_change_15 : decode cX8_change 15 = .ok (.if_icmp .ne 37, 3) := by decide +kernel
theorem dX8_change_18 : decode cX8_change 18 = .ok (.iload_n 3, 1) := by decide +kernel
theorem dX8_change_19 : decode cX8_change 19 = .ok (.iconst 0, 1) := by decide +kernel
theorem dX8_change_20 : decode cX8_change 20 = .ok (.bipush 99, 2) := by decide +kernel
theorem dX8_change_22 : decode cX8_change 22 = .ok (.invokestatic 83, 3) := by decide +kernel
theorem dX8_change_25 : decode cX8_change 25 = .ok (.ifCond .eq 27, 3) := by decide +kernel
theorem dX8_change_28 : decode cX8_change 28 = .ok (.aload_n 0, 1) := by decide +kernel
theorem dX8_change_29 : decode cX8_change 29 = .ok (.getfield 10, 3) := by decide +kernel
theorem dX8_change_32 : decode cX8_change 32 = .ok (.getfield 142, 3) := by decide +kernel
theorem dX8_change_35 : decode cX8_change 35 = .ok (.iload_n 1, 1) := by decide +kernel
theorem dX8_change_36 : decode cX8_change 36 = .ok (.iaload, 1) := by decide +kernel
theorem dX8_change_37 : decode cX8_change 37 = .ok (.istore 4, 2) := by decide +kernel
theorem dX8_change_39 : decode cX8_change 39 = .ok (.aload_n 0, 1) := by decide +kernel
theorem dX8_change_40 : decode cX8_change 40 = .ok (.getfield 10, 3) := by decide +kernel
theorem dX8_change_43 : decode cX8_change 43 = .ok (.getfield 142, 3) := by decide +kernel
theorem dX8_change_46 : decode cX8_change 46 = .ok (.iload_n 1, 1) := by decide +kernel
theorem dX8_change_47 : decode cX8_change 47 = .ok (.iload_n 3, 1) := by decide +kernel
theorem dX8_change_48 : decode cX8_change 48 = .ok (.iastore, 1) := by decide +kernel
theorem dX8_change_49 : decode cX8_change 49 = .ok (.iload 4, 2) := by decide +kernel
theorem dX8_change_51 : decode cX8_change 51 = .ok (.ireturn, 1) := by decide +kernel
theorem dX8_change_52 : decode cX8_change 52 = .ok (.iload_n 2, 1) := by decide +kernel
theorem dX8_change_53 : decode cX8_change 53 = .ok (.iconst 2, 1) := by decide +kernel
theorem dX8_change_54 : decode cX8_change 54 = .ok (.if_icmp .ne 37, 3) := by decide +kernel
theorem dX8_change_57 : decode cX8_change 57 = .ok (.iload_n 3, 1) := by decide +kernel
theorem dX8_change_58 : decode cX8_change 58 = .ok (.iconst 0, 1) := by decide +kernel
theorem dX8_change_59 : decode cX8_change 59 = .ok (.bipush 99, 2) := by decide +kernel
theorem dX8_change_61 : decode cX8_change 61 = .ok (.invokestatic 83, 3) := by decide +kernel
theorem dX8_change_64 : decode cX8_change 64 = .ok (.ifCond .eq 27, 3) := by decide +kernel
theorem dX8_change_67 : decode cX8_change 67 = .ok (.aload_n 0, 1) := by decide +kernel
theorem dX8_change_68 : decode cX8_change 68 = .ok (.getfield 10, 3) := by decide +kernel
theorem dX8_change_71 : decode cX8_change 71 = .ok (.getfield 145, 3) := by decide +kernel
theorem dX8_change_74 : decode cX8_change 74 = .ok (.iload_n 1, 1) := by decide +kernel
theorem dX8_change_75 : decode cX8_change 75 = .ok (.iaload, 1) := by decide +kernel
theorem dX8_change_76 : decode cX8_change 76 = .ok (.istore 4, 2) := by decide +kernel
theorem dX8_change_78 : decode cX8_change 78 = .ok (.aload_n 0, 1) := by decide +kernel
theorem dX8_change_79 : decode cX8_change 79 = .ok (.getfield 10, 3) := by decide +kernel
theorem dX8_change_82 : decode cX8_change 82 = .ok (.getfield 145, 3) := by decide +kernel
theorem dX8_change_85 : decode cX8_change 85 = .ok (.iload_n 1, 1) := by decide +kernel
theorem dX8_change_86 : decode cX8_change 86 = .ok (.iload_n 3, 1) := by decide +kernel
theorem dX8_change_87 : decode cX8_change 87 = .ok (.iastore, 1) := by decide +kernel
theorem dX8_change_88 : decode cX8_change 88 = .ok (.iload 4, 2) := by decide +kernel
theorem dX8_change_90 : decode cX8_change 90 = .ok (.ireturn, 1) := by decide +kernel
theorem dX8_change_91 : decode cX8_change 91 = .ok (.iconst (-1), 1) := by decide +kernel
theorem dX8_change_92 : decode cX8_change 92 = .ok (.ireturn, 1) := by decide +kernel
set_option maxRecDepth 20000 in
theorem ggX8_pair_X6_has : GoodIn wsX8_pair wsX6_has := goodIn_r _ [7, 8, 37, 38, 39, 40, 41, 42, 43, 44, 45, 46, 47, 48] (by decide +kernel) (by decide +kernel)
set_option maxRecDepth 20000 in
theorem gX8_pair_X6_has : GoodIn wsX8_pair (wsV RX8 136 RX6 yX6_has wsX6_has) := goodIn_app (goodIn_of _ (by decide +kernel)) ggX8_pair_X6_has
set_option maxRecDepth 20000 in
theorem ggX8_pair_X6_join : GoodIn wsX8_pair wsX6_join := goodIn_r _ [12, 13, 14, 15, 16, 17, 6, 18, 19, 20, 21, 22, 23, 4, 5, 7, 8, 37, 38, 39, 40, 41, 42, 43, 44, 45, 46, 47, 48] (by decide +kernel) (by decide +kernel)
set_option maxRecDepth 20000 in
theorem gX8_pair_X6_join : GoodIn wsX8_pair (wsV RX8 167 RX6 yX6_join wsX6_join) := goodIn_app (goodIn_of _ (by decide +kernel)) ggX8_pair_X6_join
theorem dX8_pair_0 : decode cX8_pair 0 = .ok (.aload_n 0, 1) := by decide +kernel
theorem dX8_pair_1 : decode cX8_pair 1 = .ok (.getfield 10, 3) := by decide +kernel
theorem dX8_pair_4 : decode cX8_pair 4 = .ok (.iload_n 1, 1) := by decide +kernel
theorem dX8_pair_5 : decode cX8_pair 5 = .ok (.invokevirtual 136, 3) := by decide +kernel
theorem dX8_pair_8 : decode cX8_pair 8 = .ok (.ifCond .eq 19, 3) := by decide +kernel
theorem dX8_pair_11 : decode cX8_pair 11 = .ok (.aload_n 0, 1) := by decide +kernel
theorem dX8_pair_12 : decode cX8_pair 12 = .ok (.getfield 10, 3) := by decide +kernel
theorem dX8_pair_15 : decode cX8_pair 15 = .ok (.iload_n 2, 1) := by decide +kernel
theorem dX8_pair_16 : decode cX8_pair 16 = .ok (.invokevirtual 136, 3) := by decide +kernel
theorem dX8_pair_19 : decode cX8_pair 19 = .ok (.ifCond .eq 8, 3) := by decide +kernel
theorem dX8_pair_22 : decode cX8_pair 22 = .ok (.iload_n 1, 1) := by decide +kernel
theorem dX8_pair_23 : decode cX8_pair 23 = .ok (.iload_n 2, 1) := by decide +kernel
theorem dX8_pair_24 : decode cX8_pair 24 = .ok (.if_icmp .ne 5, 3) := by decide +kernel
theorem dX8_pair_27 : decode cX8_pair 27 = .ok (.iconst (-1), 1) := by decide +kernel
theorem dX8_pair_28 : decode cX8_pair 28 = .ok (.ireturn, 1) := by decide +kernel
theorem dX8_pair_29 : decode cX8_pair 29 = .ok (.aload_n 0, 1) := by decide +kernel
theorem dX8_pair_30 : decode cX8_pair 30 = .ok (.getfield 10, 3) := by decide +kernel
theorem dX8_pair_33 : decode cX8_pair 33 = .ok (.getfield 151, 3) := by decide +kernel
theorem dX8_pair_36 : decode cX8_pair 36 = .ok (.iload_n 1, 1) := by decide +kernel
theorem dX8_pair_37 : decode cX8_pair 37 = .ok (.iaload, 1) := by decide +kernel
theorem dX8_pair_38 : decode cX8_pair 38 = .ok (.iload_n 2, 1) := by decide +kernel
theorem dX8_pair_39 : decode cX8_pair 39 = .ok (.if_icmp .ne 7, 3) := by decide +kernel
theorem dX8_pair_42 : decode cX8_pair 42 = .ok (.iconst 1, 1) := by decide +kernel
theorem dX8_pair_43 : decode cX8_pair 43 = .ok (.goto 4, 3) := by decide +kernel
theorem dX8_pair_46 : decode cX8_pair 46 = .ok (.iconst 0, 1) := by decide +kernel
theorem dX8_pair_47 : decode cX8_pair 47 = .ok (.istore_n 3, 1) := by decide +kernel
theorem dX8_pair_48 : decode cX8_pair 48 = .ok (.aload_n 0, 1) := by decide +kernel
theorem dX8_pair_49 : decode cX8_pair 49 = .ok (.getfield 10, 3) := by decide +kernel
theorem dX8_pair_52 : decode cX8_pair 52 = .ok (.iload_n 1, 1) := by decide +kernel
theorem dX8_pair_53 : decode cX8_pair 53 = .ok (.iload_n 2, 1) := by decide +kernel
theorem dX8_pair_54 : decode cX8_pair 54 = .ok (.invokevirtual 167, 3) := by decide +kernel
theorem dX8_pair_57 : decode cX8_pair 57 = .ok (.iload_n 3, 1) := by decide +kernel
theorem dX8_pair_58 : decode cX8_pair 58 = .ok (.ifCond .eq 7, 3) := by decide +kernel
theorem dX8_pair_61 : decode cX8_pair 61 = .ok (.iconst 1, 1) := by decide +kernel
theorem dX8_pair_62 : decode cX8_pair 62 = .ok (.goto 4, 3) := by decide +kernel
theorem dX8_pair_65 : decode cX8_pair 65 = .ok (.iconst 0, 1) := by decide +kernel
theorem dX8_pair_66 : decode cX8_pair 66 = .ok (.ireturn, 1) := by decide +kernel
set_option maxRecDepth 20000 in
theorem ggX8_leave_X6_has : GoodIn wsX8_leave wsX6_has := goodIn_r _ [7, 8, 33, 34, 35, 36, 37, 38, 39, 40, 41, 42, 43, 44] (by decide +kernel) (by decide +kernel)
set_option maxRecDepth 20000 in
theorem gX8_leave_X6_has : GoodIn wsX8_leave (wsV RX8 136 RX6 yX6_has wsX6_has) := goodIn_app (goodIn_of _ (by decide +kernel)) ggX8_leave_X6_has
set_option maxRecDepth 20000 in
theorem ggX8_leave_X6_unjoin : GoodIn wsX8_leave wsX6_unjoin := goodIn_r _ [12, 13, 14, 15, 16, 6, 17, 18, 19, 4, 5, 7, 8, 33, 34, 35, 36, 37, 38, 39, 40, 41, 42, 43, 44] (by decide +kernel) (by decide +kernel)
set_option maxRecDepth 20000 in
theorem gX8_leave_X6_unjoin : GoodIn wsX8_leave (wsV RX8 171 RX6 yX6_unjoin wsX6_unjoin) := goodIn_app (goodIn_of _ (by decide +kernel)) ggX8_leave_X6_unjoin
theorem dX8_leave_0 : decode cX8_leave 0 = .ok (.aload_n 0, 1) := by decide +kernel
theorem dX8_leave_1 : decode cX8_leave 1 = .ok (.getfield 10, 3) := by decide +kernel
theorem dX8_leave_4 : decode cX8_leave 4 = .ok (.iload_n 1, 1) := by decide +kernel
theorem dX8_leave_5 : decode cX8_leave 5 = .ok (.invokevirtual 136, 3) := by decide +kernel
theorem dX8_leave_8 : decode cX8_leave 8 = .ok (.ifCond .ne 5, 3) := by decide +kernel
theorem dX8_leave_11 : decode cX8_leave 11 = .ok (.iconst (-1), 1) := by decide +kernel
theorem dX8_leave_12 : decode cX8_leave 12 = .ok (.ireturn, 1) := by decide +kernel
theorem dX8_leave_13 : decode cX8_leave 13 = .ok (.aload_n 0, 1) := by decide +kernel
theorem dX8_leave_14 : decode cX8_leave 14 = .ok (.getfield 10, 3) := by decide +kernel
theorem dX8_leave_17 : decode cX8_leave 17 = .ok (.getfield 151, 3) := by decide +kernel
theorem dX8_leave_20 : decode cX8_leave 20 = .ok (.iload_n 1, 1) := by decide +kernel
theorem dX8_leave_21 : decode cX8_leave 21 = .ok (.iaload, 1) := by decide +kernel
theorem dX8_leave_22 : decode cX8_leave 22 = .ok (.iconst (-1), 1) := by decide +kernel
theorem dX8_leave_23 : decode cX8_leave 23 = .ok (.if_icmp .eq 7, 3) := by decide +kernel
theorem dX8_leave_26 : decode cX8_leave 26 = .ok (.iconst 1, 1) := by decide +kernel
theorem dX8_leave_27 : decode cX8_leave 27 = .ok (.goto 4, 3) := by decide +kernel
theorem dX8_leave_30 : decode cX8_leave 30 = .ok (.iconst 0, 1) := by decide +kernel
theorem dX8_leave_31 : decode cX8_leave 31 = .ok (.istore_n 2, 1) := by decide +kernel
theorem dX8_leave_32 : decode cX8_leave 32 = .ok (.aload_n 0, 1) := by decide +kernel
theorem dX8_leave_33 : decode cX8_leave 33 = .ok (.getfield 10, 3) := by decide +kernel
theorem dX8_leave_36 : decode cX8_leave 36 = .ok (.iload_n 1, 1) := by decide +kernel
theorem dX8_leave_37 : decode cX8_leave 37 = .ok (.invokevirtual 171, 3) := by decide +kernel
theorem dX8_leave_40 : decode cX8_leave 40 = .ok (.iload_n 2, 1) := by decide +kernel
theorem dX8_leave_41 : decode cX8_leave 41 = .ok (.ifCond .eq 7, 3) := by decide +kernel
theorem dX8_leave_44 : decode cX8_leave 44 = .ok (.iconst 1, 1) := by decide +kernel
theorem dX8_leave_45 : decode cX8_leave 45 = .ok (.goto 4, 3) := by decide +kernel
theorem dX8_leave_48 : decode cX8_leave 48 = .ok (.iconst 0, 1) := by decide +kernel
theorem dX8_leave_49 : decode cX8_leave 49 = .ok (.ireturn, 1) := by decide +kernel
set_option maxRecDepth 20000 in
theorem ggX8_spend_X6_has : GoodIn wsX8_spend wsX6_has := goodIn_r _ [12, 13, 27, 28, 29, 30, 31, 32, 33, 34, 35, 36, 37, 38] (by decide +kernel) (by decide +kernel)
set_option maxRecDepth 20000 in
theorem gX8_spend_X6_has : GoodIn wsX8_spend (wsV RX8 136 RX6 yX6_has wsX6_has) := goodIn_app (goodIn_of _ (by decide +kernel)) ggX8_spend_X6_has
theorem dX8_spend_0 : decode cX8_spend 0 = .ok (.aload_n 0, 1) := by decide +kernel
theorem dX8_spend_1 : decode cX8_spend 1 = .ok (.getfield 10, 3) := by decide +kernel
theorem dX8_spend_4 : decode cX8_spend 4 = .ok (.iload_n 1, 1) := by decide +kernel
theorem dX8_spend_5 : decode cX8_spend 5 = .ok (.invokevirtual 136, 3) := by decide +kernel
theorem dX8_spend_8 : decode cX8_spend 8 = .ok (.ifCond .ne 5, 3) := by decide +kernel
theorem dX8_spend_11 : decode cX8_spend 11 = .ok (.iconst (-1), 1) := by decide +kernel
theorem dX8_spend_12 : decode cX8_spend 12 = .ok (.ireturn, 1) := by decide +kernel
theorem dX8_spend_13 : decode cX8_spend 13 = .ok (.aload_n 0, 1) := by decide +kernel
theorem dX8_spend_14 : decode cX8_spend 14 = .ok (.getfield 10, 3) := by decide +kernel
theorem dX8_spend_17 : decode cX8_spend 17 = .ok (.getfield 145, 3) := by decide +kernel
theorem dX8_spend_20 : decode cX8_spend 20 = .ok (.iload_n 1, 1) := by decide +kernel
theorem dX8_spend_21 : decode cX8_spend 21 = .ok (.iaload, 1) := by decide +kernel
theorem dX8_spend_22 : decode cX8_spend 22 = .ok (.bipush 99, 2) := by decide +kernel
theorem dX8_spend_24 : decode cX8_spend 24 = .ok (.aload_n 0, 1) := by decide +kernel
theorem dX8_spend_25 : decode cX8_spend 25 = .ok (.getfield 10, 3) := by decide +kernel
theorem dX8_spend_28 : decode cX8_spend 28 = .ok (.getfield 142, 3) := by decide +kernel
theorem dX8_spend_31 : decode cX8_spend 31 = .ok (.iload_n 1, 1) := by decide +kernel
theorem dX8_spend_32 : decode cX8_spend 32 = .ok (.iaload, 1) := by decide +kernel
theorem dX8_spend_33 : decode cX8_spend 33 = .ok (.isub, 1) := by decide +kernel
theorem dX8_spend_34 : decode cX8_spend 34 = .ok (.invokestatic 175, 3) := by decide +kernel
theorem dX8_spend_37 : decode cX8_spend 37 = .ok (.istore_n 2, 1) := by decide +kernel
theorem dX8_spend_38 : decode cX8_spend 38 = .ok (.aload_n 0, 1) := by decide +kernel
theorem dX8_spend_39 : decode cX8_spend 39 = .ok (.getfield 10, 3) := by decide +kernel
theorem dX8_spend_42 : decode cX8_spend 42 = .ok (.getfield 145, 3) := by decide +kernel
theorem dX8_spend_45 : decode cX8_spend 45 = .ok (.iload_n 1, 1) := by decide +kernel
theorem dX8_spend_46 : decode cX8_spend 46 = .ok (.dup2, 1) := by decide +kernel
theorem dX8_spend_47 : decode cX8_spend 47 = .ok (.iaload, 1) := by decide +kernel
theorem dX8_spend_48 : decode cX8_spend 48 = .ok (.iload_n 2, 1) := by decide +kernel
theorem dX8_spend_49 : decode cX8_spend 49 = .ok (.isub, 1) := by decide +kernel
theorem dX8_spend_50 : decode cX8_spend 50 = .ok (.iastore, 1) := by decide +kernel
theorem dX8_spend_51 : decode cX8_spend 51 = .ok (.aload_n 0, 1) := by decide +kernel
theorem dX8_spend_52 : decode cX8_spend 52 = .ok (.getfield 10, 3) := by decide +kernel
theorem dX8_spend_55 : decode cX8_spend 55 = .ok (.getfield 142, 3) := by decide +kernel
theorem dX8_spend_58 : decode cX8_spend 58 = .ok (.iload_n 1, 1) := by decide +kernel
theorem dX8_spend_59 : decode cX8_spend 59 = .ok (.dup2, 1) := by decide +kernel
theorem dX8_spend_60 : decode cX8_spend 60 = .ok (.iaload, 1) := by decide +kernel
theorem dX8_spend_61 : decode cX8_spend 61 = .ok (.iload_n 2, 1) := by decide +kernel
theorem dX8_spend_62 : decode cX8_spend 62 = .ok (.iadd, 1) := by decide +kernel
theorem dX8_spend_63 : decode cX8_spend 63 = .ok (.iastore, 1) := by decide +kernel
theorem dX8_spend_64 : decode cX8_spend 64 = .ok (.aload_n 0, 1) := by decide +kernel
theorem dX8_spend_65 : decode cX8_spend 65 = .ok (.getfield 10, 3) := by decide +kernel
theorem dX8_spend_68 : decode cX8_spend 68 = .ok (.getfield 142, 3) := by decide +kernel
theorem dX8_spend_71 : decode cX8_spend 71 = .ok (.iload_n 1, 1) := by decide +kernel
theorem dX8_spend_72 : decode cX8_spend 72 = .ok (.iaload, 1) := by decide +kernel
theorem dX8_spend_73 : decode cX8_spend 73 = .ok (.ireturn, 1) := by decide +kernel
set_option maxRecDepth 20000 in
theorem ggX8_days_X8_within : GoodIn wsX8_days wsX8_within := goodIn_r _ [6] (by decide +kernel) (by decide +kernel)
set_option maxRecDepth 20000 in
theorem gX8_days_X8_within : GoodIn wsX8_days (va_wsS RX8 83 yX8_within wsX8_within) := goodIn_app (goodIn_of _ (by decide +kernel)) ggX8_days_X8_within
set_option maxRecDepth 20000 in
theorem ggX8_days_X6_pass : GoodIn wsX8_days wsX6_pass := goodIn_r _ [11, 12, 13, 14, 10, 15, 16, 17, 18, 19, 20, 21, 22, 23, 24, 25, 26, 27, 28, 29, 30, 31, 32, 33, 34, 35, 36, 37, 38, 39, 40, 41, 42, 43, 44, 45, 46, 47, 48, 49, 50, 51, 52, 53, 54, 55, 56, 57, 58, 59, 60, 61, 62, 63, 64, 65, 66, 80, 81, 82, 83, 84, 85, 86, 87, 88, 89, 90, 91] (by decide +kernel) (by decide +kernel)
set_option maxRecDepth 20000 in
theorem gX8_days_X6_pass : GoodIn wsX8_days (wsV RX8 181 RX6 yX6_pass wsX6_pass) := goodIn_app (goodIn_of _ (by decide +kernel)) ggX8_days_X6_pass
theorem dX8_days_0 : decode cX8_days 0 = .ok (.iload_n 1, 1) := by decide +kernel
theorem dX8_days_1 : decode cX8_days 1 = .ok (.iconst 1, 1) := by decide +kernel
theorem dX8_days_2 : decode cX8_days 2 = .ok (.bipush 60, 2) := by decide +kernel
theorem dX8_days_4 : decode cX8_days 4 = .ok (.invokestatic 83, 3) := by decide +kernel
theorem dX8_days_7 : decode cX8_days 7 = .ok (.ifCond .ne 5, 3) := by decide +kernel
theorem dX8_days_10 : decode cX8_days 10 = .ok (.iconst (-1), 1) := by decide +kernel
theorem dX8_days_11 : decode cX8_days 11 = .ok (.ireturn, 1) := by decide +kernel
theorem dX8_days_12 : decode cX8_days 12 = .ok (.aload_n 0, 1) := by decide +kernel
theorem dX8_days_13 : decode cX8_days 13 = .ok (.getfield 10, 3) := by decide +kernel
theorem dX8_days_16 : decode cX8_days 16 = .ok (.iload_n 1, 1) := by decide +kernel
theorem dX8_days_17 : decode cX8_days 17 = .ok (.invokevirtual 181, 3) := by decide +kernel
theorem dX8_days_20 : decode cX8_days 20 = .ok (.pop, 1) := by decide +kernel
theorem dX8_days_21 : decode cX8_days 21 = .ok (.aload_n 0, 1) := by decide +kernel
theorem dX8_days_22 : decode cX8_days 22 = .ok (.getfield 10, 3) := by decide +kernel
theorem dX8_days_25 : decode cX8_days 25 = .ok (.getfield 184, 3) := by decide +kernel
theorem dX8_days_28 : decode cX8_days 28 = .ok (.ireturn, 1) := by decide +kernel
theorem dX8_seed_0 : decode cX8_seed 0 = .ok (.aload_n 0, 1) := by decide +kernel
theorem dX8_seed_1 : decode cX8_seed 1 = .ok (.getfield 10, 3) := by decide +kernel
theorem dX8_seed_4 : decode cX8_seed 4 = .ok (.getfield 98, 3) := by decide +kernel
theorem dX8_seed_7 : decode cX8_seed 7 = .ok (.istore_n 2, 1) := by decide +kernel
theorem dX8_seed_8 : decode cX8_seed 8 = .ok (.aload_n 0, 1) := by decide +kernel
theorem dX8_seed_9 : decode cX8_seed 9 = .ok (.getfield 10, 3) := by decide +kernel
theorem dX8_seed_12 : decode cX8_seed 12 = .ok (.iload_n 1, 1) := by decide +kernel
theorem dX8_seed_13 : decode cX8_seed 13 = .ok (.putfield 98, 3) := by decide +kernel
theorem dX8_seed_16 : decode cX8_seed 16 = .ok (.iload_n 2, 1) := by decide +kernel
theorem dX8_seed_17 : decode cX8_seed 17 = .ok (.ireturn, 1) := by decide +kernel
set_option maxRecDepth 20000 in
theorem ggX8_day_X6_passDayByDraws : GoodIn wsX8_day wsX6_passDayByDraws := goodIn_r _ [6, 7, 8, 9, 10, 11, 5, 12, 13, 14, 15, 16, 17, 18, 19, 20, 21, 22, 23, 24, 25, 26, 27, 28, 29, 30, 31, 32, 33, 34, 35, 36, 37, 38, 39, 40, 41, 42, 43, 44, 45, 46, 47, 48, 49, 50, 51, 52, 53, 54, 55, 56, 57, 58, 59, 60, 61, 62, 63, 64, 65, 66, 67, 68, 69, 70, 71, 72, 73, 74, 75, 76, 77, 78, 79, 80, 81, 82, 83, 97, 98, 99, 100, 101, 102, 103, 104, 105, 106, 107, 108] (by decide +kernel) (by decide +kernel)
set_option maxRecDepth 20000 in
theorem gX8_day_X6_passDayByDraws : GoodIn wsX8_day (wsV RX8 187 RX6 yX6_passDayByDraws wsX6_passDayByDraws) := goodIn_app (goodIn_of _ (by decide +kernel)) ggX8_day_X6_passDayByDraws
theorem dX8_day_0 : decode cX8_day 0 = .ok (.aload_n 0, 1) := by decide +kernel
theorem dX8_day_1 : decode cX8_day 1 = .ok (.getfield 10, 3) := by decide +kernel
theorem dX8_day_4 : decode cX8_day 4 = .ok (.invokevirtual 187, 3) := by decide +kernel
theorem dX8_day_7 : decode cX8_day 7 = .ok (.ireturn, 1) := by decide +kernel
set_option maxRecDepth 20000 in
theorem ggX8_luck_X8_within : GoodIn wsX8_luck wsX8_within := goodIn_r _ [5] (by decide +kernel) (by decide +kernel)
set_option maxRecDepth 20000 in
theorem gX8_luck_X8_within : GoodIn wsX8_luck (va_wsS RX8 83 yX8_within wsX8_within) := goodIn_app (goodIn_of _ (by decide +kernel)) ggX8_luck_X8_within
set_option maxRecDepth 20000 in
theorem ggX8_luck_X7_luckyDays : GoodIn wsX8_luck wsX7_luckyDays := goodIn_r _ [10, 11, 12, 13, 14, 15, 16, 17, 18, 19, 20, 21, 22, 23, 24, 25, 26, 27, 28, 29, 30, 31, 32, 33, 34, 35, 36, 37, 38, 39, 40, 41, 42, 43, 44, 45, 46, 47, 48, 49, 50, 51, 52, 53, 54, 55, 56, 57, 58, 59, 60, 61, 62, 63, 64, 65, 66, 67, 68, 69, 70, 71, 72, 73, 74, 75, 76, 77, 78, 79, 80, 81, 82, 83, 84, 85, 86, 87, 88, 89, 90, 91, 92, 93, 94, 95, 96, 97, 98, 99, 100, 101, 102, 103, 104, 118, 119, 120, 121, 122, 123, 124, 125, 126, 127, 128, 129, 130, 131] (by decide +kernel) (by decide +kernel)
set_option maxRecDepth 20000 in
theorem gX8_luck_X7_luckyDays : GoodIn wsX8_luck (wsV RX8 191 RX7 yX7_luckyDays wsX7_luckyDays) := goodIn_app (goodIn_of _ (by decide +kernel)) ggX8_luck_X7_luckyDays
theorem dX8_luck_0 : decode cX8_luck 0 = .ok (.iload_n 1, 1) := by decide +kernel
theorem dX8_luck_1 : decode cX8_luck 1 = .ok (.iconst 1, 1) := by decide +kernel
theorem dX8_luck_2 : decode cX8_luck 2 = .ok (.bipush 30, 2) := by decide +kernel
theorem dX8_luck_4 : decode cX8_luck 4 = .ok (.invokestatic 83, 3) := by decide +kernel
theorem dX8_luck_7 : decode cX8_luck 7 = .ok (.ifCond .eq 14, 3) := by decide +kernel
theorem dX8_luck_10 : decode cX8_luck 10 = .ok (.aload_n 0, 1) := by decide +kernel
theorem dX8_luck_11 : decode cX8_luck 11 = .ok (.getfield 27, 3) := by decide +kernel
theorem dX8_luck_14 : decode cX8_luck 14 = .ok (.iload_n 1, 1) := by decide +kernel
theorem dX8_luck_15 : decode cX8_luck 15 = .ok (.invokevirtual 191, 3) := by decide +kernel
theorem dX8_luck_18 : decode cX8_luck 18 = .ok (.goto 4, 3) := by decide +kernel
theorem dX8_luck_21 : decode cX8_luck 21 = .ok (.iconst (-1), 1) := by decide +kernel
theorem dX8_luck_22 : decode cX8_luck 22 = .ok (.ireturn, 1) := by decide +kernel
set_option maxRecDepth 20000 in
theorem ggX8_state_X6_allNeed : GoodIn wsX8_state wsX6_allNeed := goodIn_r _ [9, 10, 11, 35, 36, 37, 38, 39, 40, 41, 42, 43, 44, 45, 46] (by decide +kernel) (by decide +kernel)
set_option maxRecDepth 20000 in
theorem gX8_state_X6_allNeed : GoodIn wsX8_state (wsV RX8 200 RX6 yX6_allNeed wsX6_allNeed) := goodIn_app (goodIn_of _ (by decide +kernel)) ggX8_state_X6_allNeed
set_option maxRecDepth 20000 in
theorem ggX8_state_X6_allSaved : GoodIn wsX8_state wsX6_allSaved := goodIn_r _ [15, 10, 16, 35, 36, 37, 38, 39, 40, 41, 42, 43, 44, 45, 46] (by decide +kernel) (by decide +kernel)
set_option maxRecDepth 20000 in
theorem gX8_state_X6_allSaved : GoodIn wsX8_state (wsV RX8 203 RX6 yX6_allSaved wsX6_allSaved) := goodIn_app (goodIn_of _ (by decide +kernel)) ggX8_state_X6_allSaved
set_option maxRecDepth 20000 in
theorem ggX8_state_X6_speakers : GoodIn wsX8_state wsX6_speakers := goodIn_r _ [20, 10, 21, 35, 36, 37, 38, 39, 40, 41, 42, 43, 44, 45, 46] (by decide +kernel) (by decide +kernel)
set_option maxRecDepth 20000 in
theorem gX8_state_X6_speakers : GoodIn wsX8_state (wsV RX8 206 RX6 yX6_speakers wsX6_speakers) := goodIn_app (goodIn_of _ (by decide +kernel)) ggX8_state_X6_speakers
theorem dX8_state_0 : decode cX8_state 0 = .ok (.iload_n 1, 1) := by decide +kernel
theorem dX8_state_1 : decode cX8_state 1 = .ok (.tableswitch 87 0 5 #[39, 47, 55, 63, 71, 79], 39) := by decide +kernel
theorem dX8_state_40 : decode cX8_state 40 = .ok (.aload_n 0, 1) := by decide +kernel
theorem dX8_state_41 : decode cX8_state 41 = .ok (.getfield 10, 3) := by decide +kernel
theorem dX8_state_44 : decode cX8_state 44 = .ok (.getfield 194, 3) := by decide +kernel
theorem dX8_state_47 : decode cX8_state 47 = .ok (.ireturn, 1) := by decide +kernel
theorem dX8_state_48 : decode cX8_state 48 = .ok (.aload_n 0, 1) := by decide +kernel
theorem dX8_state_49 : decode cX8_state 49 = .ok (.getfield 10, 3) := by decide +kernel
theorem dX8_state_52 : decode cX8_state 52 = .ok (.getfield 184, 3) := by decide +kernel
theorem dX8_state_55 : decode cX8_state 55 = .ok (.ireturn, 1) := by decide +kernel
theorem dX8_state_56 : decode cX8_state 56 = .ok (.aload_n 0, 1) := by decide +kernel
theorem dX8_state_57 : decode cX8_state 57 = .ok (.getfield 10, 3) := by decide +kernel
theorem dX8_state_60 : decode cX8_state 60 = .ok (.getfield 197, 3) := by decide +kernel
theorem dX8_state_63 : decode cX8_state 63 = .ok (.ireturn, 1) := by decide +kernel
theorem dX8_state_64 : decode cX8_state 64 = .ok (.aload_n 0, 1) := by decide +kernel
theorem dX8_state_65 : decode cX8_state 65 = .ok (.getfield 10, 3) := by decide +kernel
theorem dX8_state_68 : decode cX8_state 68 = .ok (.invokevirtual 200, 3) := by decide +kernel
theorem dX8_state_71 : decode cX8_state 71 = .ok (.ireturn, 1) := by decide +kernel
theorem dX8_state_72 : decode cX8_state 72 = .ok (.aload_n 0, 1) := by decide +kernel
theorem dX8_state_73 : decode cX8_state 73 = .ok (.getfield 10, 3) := by decide +kernel
theorem dX8_state_76 : decode cX8_state 76 = .ok (.invokevirtual 203, 3) := by decide +kernel
theorem dX8_state_79 : decode cX8_state 79 = .ok (.ireturn, 1) := by decide +kernel
theorem dX8_state_80 : decode cX8_state 80 = .ok (.aload_n 0, 1) := by decide +kernel
theorem dX8_state_81 : decode cX8_state 81 = .ok (.getfield 10, 3) := by decide +kernel
theorem dX8_state_84 : decode cX8_state 84 = .ok (.invokevirtual 206, 3) := by decide +kernel
theorem dX8_state_87 : decode cX8_state 87 = .ok (.ireturn, 1) := by decide +kernel
theorem dX8_state_88 : decode cX8_state 88 = .ok (.iconst (-1), 1) := by decide +kernel
theorem dX8_state_89 : decode cX8_state 89 = .ok (.ireturn, 1) := by decide +kernel
set_option maxRecDepth 20000 in
theorem ggX8_sound_X8_within : GoodIn wsX8_sound wsX8_within := goodIn_r _ [5] (by decide +kernel) (by decide +kernel)
set_option maxRecDepth 20000 in
theorem gX8_sound_X8_within : GoodIn wsX8_sound (va_wsS RX8 83 yX8_within wsX8_within) := goodIn_app (goodIn_of _ (by decide +kernel)) ggX8_sound_X8_within
set_option maxRecDepth 20000 in
theorem ggX8_sound_X7_soundBy : GoodIn wsX8_sound wsX7_soundBy := goodIn_r _ [10, 11, 12, 13, 14, 15, 16, 17, 18, 19, 20, 21, 22, 23, 24, 25, 26, 27, 28, 29, 30, 31, 32, 33, 34, 35, 36, 37, 38, 39, 40, 41, 42, 43, 44, 45, 46, 47, 48, 49, 50, 51, 52, 53, 54, 55, 56, 57, 58, 59, 60, 61, 62, 63, 64, 65, 66, 67, 68, 69, 70, 71, 72, 73, 74, 75, 76, 77, 78, 79, 80, 81, 95, 96, 97, 98, 99, 100, 101, 102, 103, 104, 105, 106, 107, 108] (by decide +kernel) (by decide +kernel)
set_option maxRecDepth 20000 in
theorem gX8_sound_X7_soundBy : GoodIn wsX8_sound (wsV RX8 209 RX7 yX7_soundBy wsX7_soundBy) := goodIn_app (goodIn_of _ (by decide +kernel)) ggX8_sound_X7_soundBy
theorem dX8_sound_0 : decode cX8_sound 0 = .ok (.iload_n 1, 1) := by decide +kernel
theorem dX8_sound_1 : decode cX8_sound 1 = .ok (.iconst 0, 1) := by decide +kernel
theorem dX8_sound_2 : decode cX8_sound 2 = .ok (.bipush 60, 2) := by decide +kernel
theorem dX8_sound_4 : decode cX8_sound 4 = .ok (.invokestatic 83, 3) := by decide +kernel
theorem dX8_sound_7 : decode cX8_sound 7 = .ok (.ifCond .eq 14, 3) := by decide +kernel
theorem dX8_sound_10 : decode cX8_sound 10 = .ok (.aload_n 0, 1) := by decide +kernel
theorem dX8_sound_11 : decode cX8_sound 11 = .ok (.getfield 27, 3) := by decide +kernel
theorem dX8_sound_14 : decode cX8_sound 14 = .ok (.iload_n 1, 1) := by decide +kernel
theorem dX8_sound_15 : decode cX8_sound 15 = .ok (.invokevirtual 209, 3) := by decide +kernel
theorem dX8_sound_18 : decode cX8_sound 18 = .ok (.goto 4, 3) := by decide +kernel
theorem dX8_sound_21 : decode cX8_sound 21 = .ok (.iconst (-1), 1) := by decide +kernel
theorem dX8_sound_22 : decode cX8_sound 22 = .ok (.ireturn, 1) := by decide +kernel
set_option maxRecDepth 20000 in
theorem ggX8_eased_X6_has : GoodIn wsX8_eased wsX6_has := goodIn_r _ [7, 8, 90, 91, 92, 93, 94, 95, 96, 97, 98, 99, 100, 101] (by decide +kernel) (by decide +kernel)
set_option maxRecDepth 20000 in
theorem gX8_eased_X6_has : GoodIn wsX8_eased (wsV RX8 136 RX6 yX6_has wsX6_has) := goodIn_app (goodIn_of _ (by decide +kernel)) ggX8_eased_X6_has
set_option maxRecDepth 20000 in
theorem ggX8_eased_X7_daysUntilNeed : GoodIn wsX8_eased wsX7_daysUntilNeed := goodIn_r _ [13, 14, 15, 16, 17, 18, 19, 6, 20, 21, 22, 23, 8, 24, 25, 26, 27, 28, 29, 30, 31, 32, 33, 34, 35, 36, 37, 38, 39, 40, 41, 42, 43, 44, 45, 46, 47, 48, 49, 50, 51, 52, 53, 54, 55, 56, 57, 58, 59, 60, 4, 5, 7, 61, 62, 63, 64, 65, 66, 67, 68, 69, 70, 71, 72, 73, 74, 75, 76, 102, 103, 90, 91, 92, 93, 94, 95, 96, 97, 98, 99, 100, 101] (by decide +kernel) (by decide +kernel)
set_option maxRecDepth 20000 in
theorem gX8_eased_X7_daysUntilNeed : GoodIn wsX8_eased (wsV RX8 212 RX7 yX7_daysUntilNeed wsX7_daysUntilNeed) := goodIn_app (goodIn_of _ (by decide +kernel)) ggX8_eased_X7_daysUntilNeed
theorem dX8_eased_0 : decode cX8_eased 0 = .ok (.aload_n 0, 1) := by decide +kernel
theorem dX8_eased_1 : decode cX8_eased 1 = .ok (.getfield 10, 3) := by decide +kernel
theorem dX8_eased_4 : decode cX8_eased 4 = .ok (.iload_n 1, 1) := by decide +kernel
theorem dX8_eased_5 : decode cX8_eased 5 = .ok (.invokevirtual 136, 3) := by decide +kernel
theorem dX8_eased_8 : decode cX8_eased 8 = .ok (.ifCond .eq 15, 3) := by decide +kernel
theorem dX8_eased_11 : decode cX8_eased 11 = .ok (.aload_n 0, 1) := by decide +kernel
theorem dX8_eased_12 : decode cX8_eased 12 = .ok (.getfield 27, 3) := by decide +kernel
theorem dX8_eased_15 : decode cX8_eased 15 = .ok (.iload_n 1, 1) := by decide +kernel
theorem dX8_eased_16 : decode cX8_eased 16 = .ok (.iconst 0, 1) := by decide +kernel
theorem dX8_eased_17 : decode cX8_eased 17 = .ok (.invokevirtual 212, 3) := by decide +kernel
theorem dX8_eased_20 : decode cX8_eased 20 = .ok (.goto 4, 3) := by decide +kernel
theorem dX8_eased_23 : decode cX8_eased 23 = .ok (.iconst (-1), 1) := by decide +kernel
theorem dX8_eased_24 : decode cX8_eased 24 = .ok (.ireturn, 1) := by decide +kernel
set_option maxRecDepth 20000 in
theorem ggX8_full_X6_has : GoodIn wsX8_full wsX6_has := goodIn_r _ [7, 8, 90, 91, 92, 93, 94, 95, 96, 97, 98, 99, 100, 101] (by decide +kernel) (by decide +kernel)
set_option maxRecDepth 20000 in
theorem gX8_full_X6_has : GoodIn wsX8_full (wsV RX8 136 RX6 yX6_has wsX6_has) := goodIn_app (goodIn_of _ (by decide +kernel)) ggX8_full_X6_has
set_option maxRecDepth 20000 in
theorem ggX8_full_X7_daysUntilNeed : GoodIn wsX8_full wsX7_daysUntilNeed := goodIn_r _ [13, 14, 15, 16, 17, 18, 19, 6, 20, 21, 22, 23, 8, 24, 25, 26, 27, 28, 29, 30, 31, 32, 33, 34, 35, 36, 37, 38, 39, 40, 41, 42, 43, 44, 45, 46, 47, 48, 49, 50, 51, 52, 53, 54, 55, 56, 57, 58, 59, 60, 4, 5, 7, 61, 62, 63, 64, 65, 66, 67, 68, 69, 70, 71, 72, 73, 74, 75, 76, 102, 103, 90, 91, 92, 93, 94, 95, 96, 97, 98, 99, 100, 101] (by decide +kernel) (by decide +kernel)
set_option maxRecDepth 20000 in
theorem gX8_full_X7_daysUntilNeed : GoodIn wsX8_full (wsV RX8 212 RX7 yX7_daysUntilNeed wsX7_daysUntilNeed) := goodIn_app (goodIn_of _ (by decide +kernel)) ggX8_full_X7_daysUntilNeed
theorem dX8_full_0 : decode cX8_full 0 = .ok (.aload_n 0, 1) := by decide +kernel
theorem dX8_full_1 : decode cX8_full 1 = .ok (.getfield 10, 3) := by decide +kernel
theorem dX8_full_4 : decode cX8_full 4 = .ok (.iload_n 1, 1) := by decide +kernel
theorem dX8_full_5 : decode cX8_full 5 = .ok (.invokevirtual 136, 3) := by decide +kernel
theorem dX8_full_8 : decode cX8_full 8 = .ok (.ifCond .eq 16, 3) := by decide +kernel
theorem dX8_full_11 : decode cX8_full 11 = .ok (.aload_n 0, 1) := by decide +kernel
theorem dX8_full_12 : decode cX8_full 12 = .ok (.getfield 27, 3) := by decide +kernel
theorem dX8_full_15 : decode cX8_full 15 = .ok (.iload_n 1, 1) := by decide +kernel
theorem dX8_full_16 : decode cX8_full 16 = .ok (.bipush 99, 2) := by decide +kernel
theorem dX8_full_18 : decode cX8_full 18 = .ok (.invokevirtual 212, 3) := by decide +kernel
theorem dX8_full_21 : decode cX8_full 21 = .ok (.goto 4, 3) := by decide +kernel
theorem dX8_full_24 : decode cX8_full 24 = .ok (.iconst (-1), 1) := by decide +kernel
theorem dX8_full_25 : decode cX8_full 25 = .ok (.ireturn, 1) := by decide +kernel
set_option maxRecDepth 20000 in
theorem ggX8_hush_X7_daysUntilHush : GoodIn wsX8_hush wsX7_daysUntilHush := goodIn_r _ [6, 7, 8, 9, 10, 11, 12, 13, 14, 15, 16, 17, 18, 19, 20, 21, 22, 23, 24, 25, 26, 27, 28, 29, 30, 31, 32, 33, 34, 35, 36, 37, 38, 39, 40, 41, 42, 43, 44, 45, 46, 47, 48, 49, 50, 51, 52, 53, 54, 55, 56, 57, 58, 59, 60, 61, 62, 63, 64, 65, 66, 67, 68, 69, 70, 71, 72, 73, 74, 75, 76, 77, 91, 92, 93, 94, 95, 96, 97, 98, 99, 100, 101, 102, 103, 104] (by decide +kernel) (by decide +kernel)
set_option maxRecDepth 20000 in
theorem gX8_hush_X7_daysUntilHush : GoodIn wsX8_hush (wsV RX8 215 RX7 yX7_daysUntilHush wsX7_daysUntilHush) := goodIn_app (goodIn_of _ (by decide +kernel)) ggX8_hush_X7_daysUntilHush
theorem dX8_hush_0 : decode cX8_hush 0 = .ok (.aload_n 0, 1) := by decide +kernel
theorem dX8_hush_1 : decode cX8_hush 1 = .ok (.getfield 27, 3) := by decide +kernel
theorem dX8_hush_4 : decode cX8_hush 4 = .ok (.invokevirtual 215, 3) := by decide +kernel
theorem dX8_hush_7 : decode cX8_hush 7 = .ok (.ireturn, 1) := by decide +kernel
set_option maxRecDepth 20000 in
theorem ggX8_partnerFor_X6_has : GoodIn wsX8_partnerFor wsX6_has := goodIn_r _ [7, 8, 110, 111, 112, 113, 114, 115, 116, 117, 118, 119, 120, 121] (by decide +kernel) (by decide +kernel)
set_option maxRecDepth 20000 in
theorem gX8_partnerFor_X6_has : GoodIn wsX8_partnerFor (wsV RX8 136 RX6 yX6_has wsX6_has) := goodIn_app (goodIn_of _ (by decide +kernel)) ggX8_partnerFor_X6_has
set_option maxRecDepth 20000 in
theorem ggX8_partnerFor_X8_within : GoodIn wsX8_partnerFor wsX8_within := goodIn_r _ [12] (by decide +kernel) (by decide +kernel)
set_option maxRecDepth 20000 in
theorem gX8_partnerFor_X8_within : GoodIn wsX8_partnerFor (va_wsS RX8 83 yX8_within wsX8_within) := goodIn_app (goodIn_of _ (by decide +kernel)) ggX8_partnerFor_X8_within
set_option maxRecDepth 20000 in
theorem ggX8_partnerFor_X7_loudestPartner : GoodIn wsX8_partnerFor wsX7_loudestPartner := goodIn_r _ [17, 18, 19, 20, 21, 22, 23, 6, 24, 25, 26, 27, 8, 28, 29, 30, 31, 32, 33, 34, 35, 36, 37, 38, 39, 40, 41, 42, 43, 44, 45, 46, 47, 48, 49, 50, 51, 52, 53, 54, 55, 56, 57, 58, 59, 60, 61, 62, 63, 64, 65, 66, 67, 68, 4, 5, 7, 69, 70, 71, 72, 73, 74, 75, 76, 77, 78, 79, 80, 81, 82, 83, 84, 85, 86, 87, 88, 89, 90, 91, 92, 93, 94, 95, 96, 122, 123, 110, 111, 112, 113, 114, 115, 116, 117, 118, 119, 120, 121] (by decide +kernel) (by decide +kernel)
set_option maxRecDepth 20000 in
theorem gX8_partnerFor_X7_loudestPartner : GoodIn wsX8_partnerFor (wsV RX8 218 RX7 yX7_loudestPartner wsX7_loudestPartner) := goodIn_app (goodIn_of _ (by decide +kernel)) ggX8_partnerFor_X7_loudestPartner
theorem dX8_partnerFor_0 : decode cX8_partnerFor 0 = .ok (.aload_n 0, 1) := by decide +kernel
theorem dX8_partnerFor_1 : decode cX8_partnerFor 1 = .ok (.getfield 10, 3) := by decide +kernel
theorem dX8_partnerFor_4 : decode cX8_partnerFor 4 = .ok (.iload_n 1, 1) := by decide +kernel
theorem dX8_partnerFor_5 : decode cX8_partnerFor 5 = .ok (.invokevirtual 136, 3) := by decide +kernel
theorem dX8_partnerFor_8 : decode cX8_partnerFor 8 = .ok (.ifCond .eq 13, 3) := by decide +kernel
theorem dX8_partnerFor_11 : decode cX8_partnerFor 11 = .ok (.iload_n 2, 1) := by decide +kernel
theorem dX8_partnerFor_12 : decode cX8_partnerFor 12 = .ok (.iconst 1, 1) := by decide +kernel
theorem dX8_partnerFor_13 : decode cX8_partnerFor 13 = .ok (.bipush 20, 2) := by decide +kernel
theorem dX8_partnerFor_15 : decode cX8_partnerFor 15 = .ok (.invokestatic 83, 3) := by decide +kernel
theorem dX8_partnerFor_18 : decode cX8_partnerFor 18 = .ok (.ifCond .ne 5, 3) := by decide +kernel
theorem dX8_partnerFor_21 : decode cX8_partnerFor 21 = .ok (.iconst (-1), 1) := by decide +kernel
theorem dX8_partnerFor_22 : decode cX8_partnerFor 22 = .ok (.ireturn, 1) := by decide +kernel
theorem dX8_partnerFor_23 : decode cX8_partnerFor 23 = .ok (.aload_n 0, 1) := by decide +kernel
theorem dX8_partnerFor_24 : decode cX8_partnerFor 24 = .ok (.getfield 27, 3) := by decide +kernel
theorem dX8_partnerFor_27 : decode cX8_partnerFor 27 = .ok (.iload_n 1, 1) := by decide +kernel
theorem dX8_partnerFor_28 : decode cX8_partnerFor 28 = .ok (.iload_n 2, 1) := by decide +kernel
theorem dX8_partnerFor_29 : decode cX8_partnerFor 29 = .ok (.invokevirtual 218, 3) := by decide +kernel
theorem dX8_partnerFor_32 : decode cX8_partnerFor 32 = .ok (.ireturn, 1) := by decide +kernel
set_option maxRecDepth 20000 in
theorem ggX8_kindFor_X6_has : GoodIn wsX8_kindFor wsX6_has := goodIn_r _ [7, 8, 98, 99, 100, 101, 102, 103, 104, 105, 106, 107, 108, 109] (by decide +kernel) (by decide +kernel)
set_option maxRecDepth 20000 in
theorem gX8_kindFor_X6_has : GoodIn wsX8_kindFor (wsV RX8 136 RX6 yX6_has wsX6_has) := goodIn_app (goodIn_of _ (by decide +kernel)) ggX8_kindFor_X6_has
set_option maxRecDepth 20000 in
theorem ggX8_kindFor_X8_within : GoodIn wsX8_kindFor wsX8_within := goodIn_r _ [12] (by decide +kernel) (by decide +kernel)
set_option maxRecDepth 20000 in
theorem gX8_kindFor_X8_within : GoodIn wsX8_kindFor (va_wsS RX8 83 yX8_within wsX8_within) := goodIn_app (goodIn_of _ (by decide +kernel)) ggX8_kindFor_X8_within
set_option maxRecDepth 20000 in
theorem ggX8_kindFor_X7_loudestKind : GoodIn wsX8_kindFor wsX7_loudestKind := goodIn_r _ [17, 18, 19, 20, 21, 22, 23, 6, 24, 25, 26, 27, 8, 28, 29, 30, 31, 32, 33, 34, 35, 36, 37, 38, 39, 40, 41, 42, 43, 44, 45, 46, 47, 48, 49, 50, 51, 52, 53, 54, 55, 56, 57, 58, 59, 60, 61, 62, 63, 64, 65, 66, 67, 68, 4, 5, 7, 69, 70, 71, 72, 73, 74, 75, 76, 77, 78, 79, 80, 81, 82, 83, 84, 110, 111, 98, 99, 100, 101, 102, 103, 104, 105, 106, 107, 108, 109] (by decide +kernel) (by decide +kernel)
set_option maxRecDepth 20000 in
theorem gX8_kindFor_X7_loudestKind : GoodIn wsX8_kindFor (wsV RX8 221 RX7 yX7_loudestKind wsX7_loudestKind) := goodIn_app (goodIn_of _ (by decide +kernel)) ggX8_kindFor_X7_loudestKind
theorem dX8_kindFor_0 : decode cX8_kindFor 0 = .ok (.aload_n 0, 1) := by decide +kernel
theorem dX8_kindFor_1 : decode cX8_kindFor 1 = .ok (.getfield 10, 3) := by decide +kernel
theorem dX8_kindFor_4 : decode cX8_kindFor 4 = .ok (.iload_n 1, 1) := by decide +kernel
theorem dX8_kindFor_5 : decode cX8_kindFor 5 = .ok (.invokevirtual 136, 3) := by decide +kernel
theorem dX8_kindFor_8 : decode cX8_kindFor 8 = .ok (.ifCond .eq 13, 3) := by decide +kernel
theorem dX8_kindFor_11 : decode cX8_kindFor 11 = .ok (.iload_n 2, 1) := by decide +kernel
theorem dX8_kindFor_12 : decode cX8_kindFor 12 = .ok (.iconst 1, 1) := by decide +kernel
theorem dX8_kindFor_13 : decode cX8_kindFor 13 = .ok (.bipush 20, 2) := by decide +kernel
theorem dX8_kindFor_15 : decode cX8_kindFor 15 = .ok (.invokestatic 83, 3) := by decide +kernel
theorem dX8_kindFor_18 : decode cX8_kindFor 18 = .ok (.ifCond .ne 5, 3) := by decide +kernel
theorem dX8_kindFor_21 : decode cX8_kindFor 21 = .ok (.iconst (-1), 1) := by decide +kernel
theorem dX8_kindFor_22 : decode cX8_kindFor 22 = .ok (.ireturn, 1) := by decide +kernel
theorem dX8_kindFor_23 : decode cX8_kindFor 23 = .ok (.aload_n 0, 1) := by decide +kernel
theorem dX8_kindFor_24 : decode cX8_kindFor 24 = .ok (.getfield 27, 3) := by decide +kernel
theorem dX8_kindFor_27 : decode cX8_kindFor 27 = .ok (.iload_n 1, 1) := by decide +kernel
theorem dX8_kindFor_28 : decode cX8_kindFor 28 = .ok (.iload_n 2, 1) := by decide +kernel
theorem dX8_kindFor_29 : decode cX8_kindFor 29 = .ok (.invokevirtual 221, 3) := by decide +kernel
theorem dX8_kindFor_32 : decode cX8_kindFor 32 = .ok (.ireturn, 1) := by decide +kernel
set_option maxRecDepth 20000 in
theorem ggX8_voiceFor_X6_has : GoodIn wsX8_voiceFor wsX6_has := goodIn_r _ [7, 8, 98, 99, 100, 101, 102, 103, 104, 105, 106, 107, 108, 109] (by decide +kernel) (by decide +kernel)
set_option maxRecDepth 20000 in
theorem gX8_voiceFor_X6_has : GoodIn wsX8_voiceFor (wsV RX8 136 RX6 yX6_has wsX6_has) := goodIn_app (goodIn_of _ (by decide +kernel)) ggX8_voiceFor_X6_has
set_option maxRecDepth 20000 in
theorem ggX8_voiceFor_X8_within : GoodIn wsX8_voiceFor wsX8_within := goodIn_r _ [12] (by decide +kernel) (by decide +kernel)
set_option maxRecDepth 20000 in
theorem gX8_voiceFor_X8_within : GoodIn wsX8_voiceFor (va_wsS RX8 83 yX8_within wsX8_within) := goodIn_app (goodIn_of _ (by decide +kernel)) ggX8_voiceFor_X8_within
set_option maxRecDepth 20000 in
theorem ggX8_voiceFor_X7_leastVoice : GoodIn wsX8_voiceFor wsX7_leastVoice := goodIn_r _ [17, 18, 19, 20, 21, 22, 23, 6, 24, 25, 26, 27, 8, 28, 29, 30, 31, 32, 33, 34, 35, 36, 37, 38, 39, 40, 41, 42, 43, 44, 45, 46, 47, 48, 49, 50, 51, 52, 53, 54, 55, 56, 57, 58, 59, 60, 61, 62, 63, 64, 65, 66, 67, 68, 4, 5, 7, 69, 70, 71, 72, 73, 74, 75, 76, 77, 78, 79, 80, 81, 82, 83, 84, 110, 111, 98, 99, 100, 101, 102, 103, 104, 105, 106, 107, 108, 109] (by decide +kernel) (by decide +kernel)
set_option maxRecDepth 20000 in
theorem gX8_voiceFor_X7_leastVoice : GoodIn wsX8_voiceFor (wsV RX8 224 RX7 yX7_leastVoice wsX7_leastVoice) := goodIn_app (goodIn_of _ (by decide +kernel)) ggX8_voiceFor_X7_leastVoice
theorem dX8_voiceFor_0 : decode cX8_voiceFor 0 = .ok (.aload_n 0, 1) := by decide +kernel
theorem dX8_voiceFor_1 : decode cX8_voiceFor 1 = .ok (.getfield 10, 3) := by decide +kernel
theorem dX8_voiceFor_4 : decode cX8_voiceFor 4 = .ok (.iload_n 1, 1) := by decide +kernel
theorem dX8_voiceFor_5 : decode cX8_voiceFor 5 = .ok (.invokevirtual 136, 3) := by decide +kernel
theorem dX8_voiceFor_8 : decode cX8_voiceFor 8 = .ok (.ifCond .eq 24, 3) := by decide +kernel
theorem dX8_voiceFor_11 : decode cX8_voiceFor 11 = .ok (.iload_n 2, 1) := by decide +kernel
theorem dX8_voiceFor_12 : decode cX8_voiceFor 12 = .ok (.iconst 1, 1) := by decide +kernel
theorem dX8_voiceFor_13 : decode cX8_voiceFor 13 = .ok (.bipush 20, 2) := by decide +kernel
theorem dX8_voiceFor_15 : decode cX8_voiceFor 15 = .ok (.invokestatic 83, 3) := by decide +kernel
theorem dX8_voiceFor_18 : decode cX8_voiceFor 18 = .ok (.ifCond .eq 14, 3) := by decide +kernel
theorem dX8_voiceFor_21 : decode cX8_voiceFor 21 = .ok (.iload_n 3, 1) := by decide +kernel
theorem dX8_voiceFor_22 : decode cX8_voiceFor 22 = .ok (.iconst 0, 1) := by decide +kernel
theorem dX8_voiceFor_23 : decode cX8_voiceFor 23 = .ok (.sipush 9999, 3) := by decide +kernel
theorem dX8_voiceFor_26 : decode cX8_voiceFor 26 = .ok (.invokestatic 83, 3) := by decide +kernel
theorem dX8_voiceFor_29 : decode cX8_voiceFor 29 = .ok (.ifCond .ne 5, 3) := by decide +kernel
theorem dX8_voiceFor_32 : decode cX8_voiceFor 32 = .ok (.iconst (-1), 1) := by decide +kernel
theorem dX8_voiceFor_33 : decode cX8_voiceFor 33 = .ok (.ireturn, 1) := by decide +kernel
theorem dX8_voiceFor_34 : decode cX8_voiceFor 34 = .ok (.aload_n 0, 1) := by decide +kernel
theorem dX8_voiceFor_35 : decode cX8_voiceFor 35 = .ok (.getfield 27, 3) := by decide +kernel
theorem dX8_voiceFor_38 : decode cX8_voiceFor 38 = .ok (.iload_n 1, 1) := by decide +kernel
theorem dX8_voiceFor_39 : decode cX8_voiceFor 39 = .ok (.iload_n 2, 1) := by decide +kernel
theorem dX8_voiceFor_40 : decode cX8_voiceFor 40 = .ok (.iload_n 3, 1) := by decide +kernel
theorem dX8_voiceFor_41 : decode cX8_voiceFor 41 = .ok (.invokevirtual 224, 3) := by decide +kernel
theorem dX8_voiceFor_44 : decode cX8_voiceFor 44 = .ok (.ireturn, 1) := by decide +kernel
set_option maxRecDepth 20000 in
theorem ggX8_best_X8_within : GoodIn wsX8_best wsX8_within := goodIn_r _ [5] (by decide +kernel) (by decide +kernel)
set_option maxRecDepth 20000 in
theorem gX8_best_X8_within : GoodIn wsX8_best (va_wsS RX8 83 yX8_within wsX8_within) := goodIn_app (goodIn_of _ (by decide +kernel)) ggX8_best_X8_within
set_option maxRecDepth 20000 in
theorem ggX8_best_X2_weigh : GoodIn wsX8_best wsX2_weigh := goodIn_r _ [10, 11, 12, 13, 14, 15, 16, 17, 18, 9, 19, 20, 21, 22, 23, 24, 25, 26, 27, 28, 29, 30, 31, 32, 33, 34, 35, 36, 37, 38, 39, 40, 41, 42, 43, 44, 45, 46, 47, 48, 49, 50, 51, 52, 53, 54, 55, 56, 57, 58, 59, 60, 61, 62, 63, 64, 65, 66, 67, 68, 69, 70, 71, 72, 73, 74, 75, 76, 77, 78, 79, 80, 81, 82, 83, 84, 85, 86, 87, 88, 89, 90, 91, 92, 93, 94, 95, 96, 97, 98, 99, 100, 101, 102, 103, 104, 105, 106, 107, 108, 109, 110, 111, 112, 113, 114, 115, 116, 117, 118, 119, 120, 121, 122, 123, 124, 142, 143, 144, 145, 146, 147, 148, 149, 150, 151, 152, 153, 154, 155, 156, 157] (by decide +kernel) (by decide +kernel)
set_option maxRecDepth 20000 in
theorem gX8_best_X2_weigh : GoodIn wsX8_best (wsV RX8 228 RX2 yX2_weigh wsX2_weigh) := goodIn_app (goodIn_of _ (by decide +kernel)) ggX8_best_X2_weigh
set_option maxRecDepth 20000 in
theorem ggX8_best_X2_mostSound : GoodIn wsX8_best wsX2_mostSound := goodIn_r _ [128, 15, 104, 105, 106, 9, 107, 11, 12, 142, 143, 144, 145, 146, 147, 148, 149, 150, 151, 152, 153, 154, 155, 156, 157] (by decide +kernel) (by decide +kernel)
set_option maxRecDepth 20000 in
theorem gX8_best_X2_mostSound : GoodIn wsX8_best (wsV RX8 231 RX2 yX2_mostSound wsX2_mostSound) := goodIn_app (goodIn_of _ (by decide +kernel)) ggX8_best_X2_mostSound
theorem dX8_best_0 : decode cX8_best 0 = .ok (.iload_n 1, 1) := by decide +kernel
theorem dX8_best_1 : decode cX8_best 1 = .ok (.iconst 1, 1) := by decide +kernel
theorem dX8_best_2 : decode cX8_best 2 = .ok (.iconst 5, 1) := by decide +kernel
theorem dX8_best_3 : decode cX8_best 3 = .ok (.invokestatic 83, 3) := by decide +kernel
theorem dX8_best_6 : decode cX8_best 6 = .ok (.ifCond .ne 5, 3) := by decide +kernel
theorem dX8_best_9 : decode cX8_best 9 = .ok (.iconst (-1), 1) := by decide +kernel
theorem dX8_best_10 : decode cX8_best 10 = .ok (.ireturn, 1) := by decide +kernel
theorem dX8_best_11 : decode cX8_best 11 = .ok (.aload_n 0, 1) := by decide +kernel
theorem dX8_best_12 : decode cX8_best 12 = .ok (.getfield 36, 3) := by decide +kernel
theorem dX8_best_15 : decode cX8_best 15 = .ok (.iload_n 1, 1) := by decide +kernel
theorem dX8_best_16 : decode cX8_best 16 = .ok (.invokevirtual 228, 3) := by decide +kernel
theorem dX8_best_19 : decode cX8_best 19 = .ok (.aload_n 0, 1) := by decide +kernel
theorem dX8_best_20 : decode cX8_best 20 = .ok (.getfield 36, 3) := by decide +kernel
theorem dX8_best_23 : decode cX8_best 23 = .ok (.invokevirtual 231, 3) := by decide +kernel
theorem dX8_best_26 : decode cX8_best 26 = .ok (.ireturn, 1) := by decide +kernel
set_option maxRecDepth 20000 in
theorem ggX8_bestOf_X8_within : GoodIn wsX8_bestOf wsX8_within := goodIn_r _ [6] (by decide +kernel) (by decide +kernel)
set_option maxRecDepth 20000 in
theorem gX8_bestOf_X8_within : GoodIn wsX8_bestOf (va_wsS RX8 83 yX8_within wsX8_within) := goodIn_app (goodIn_of _ (by decide +kernel)) ggX8_bestOf_X8_within
set_option maxRecDepth 20000 in
theorem ggX8_bestOf_X6_has : GoodIn wsX8_bestOf wsX6_has := goodIn_r _ [11, 12, 148, 149, 150, 151, 152, 153, 154, 155, 156, 157, 158, 159] (by decide +kernel) (by decide +kernel)
set_option maxRecDepth 20000 in
theorem gX8_bestOf_X6_has : GoodIn wsX8_bestOf (wsV RX8 136 RX6 yX6_has wsX6_has) := goodIn_app (goodIn_of _ (by decide +kernel)) ggX8_bestOf_X6_has
set_option maxRecDepth 20000 in
theorem ggX8_bestOf_X2_weigh : GoodIn wsX8_bestOf wsX2_weigh := goodIn_r _ [17, 18, 19, 20, 21, 22, 23, 24, 25, 16, 26, 27, 28, 29, 30, 31, 32, 33, 10, 34, 35, 36, 37, 38, 39, 40, 12, 41, 42, 43, 44, 45, 46, 47, 48, 49, 50, 51, 52, 53, 54, 55, 56, 57, 58, 59, 8, 9, 11, 60, 61, 62, 63, 64, 65, 66, 67, 68, 69, 70, 71, 72, 73, 74, 75, 76, 77, 78, 79, 80, 81, 82, 83, 84, 85, 86, 87, 88, 89, 90, 91, 92, 93, 94, 95, 96, 97, 98, 99, 100, 101, 102, 103, 104, 105, 106, 107, 108, 109, 110, 111, 112, 113, 114, 115, 116, 117, 118, 119, 120, 121, 122, 123, 124, 125, 126, 160, 161, 162, 163, 148, 149, 150, 151, 152, 153, 154, 155, 156, 157, 158, 159] (by decide +kernel) (by decide +kernel)
set_option maxRecDepth 20000 in
theorem gX8_bestOf_X2_weigh : GoodIn wsX8_bestOf (wsV RX8 228 RX2 yX2_weigh wsX2_weigh) := goodIn_app (goodIn_of _ (by decide +kernel)) ggX8_bestOf_X2_weigh
set_option maxRecDepth 20000 in
theorem ggX8_bestOf_X2_partnerInFirstWay : GoodIn wsX8_bestOf wsX2_partnerInFirstWay := goodIn_r _ [130, 18, 19, 106, 107, 108, 16, 109, 131, 132, 133, 134, 22, 119, 120, 121, 122, 20, 123, 124, 125, 126, 160, 161, 162, 163, 148, 149, 150, 151, 152, 153, 154, 155, 156, 157, 158, 159] (by decide +kernel) (by decide +kernel)
set_option maxRecDepth 20000 in
theorem gX8_bestOf_X2_partnerInFirstWay : GoodIn wsX8_bestOf (wsV RX8 234 RX2 yX2_partnerInFirstWay wsX2_partnerInFirstWay) := goodIn_app (goodIn_of _ (by decide +kernel)) ggX8_bestOf_X2_partnerInFirstWay
theorem dX8_bestOf_0 : decode cX8_bestOf 0 = .ok (.iload_n 1, 1) := by decide +kernel
theorem dX8_bestOf_1 : decode cX8_bestOf 1 = .ok (.iconst 1, 1) := by decide +kernel
theorem dX8_bestOf_2 : decode cX8_bestOf 2 = .ok (.iconst 5, 1) := by decide +kernel
theorem dX8_bestOf_3 : decode cX8_bestOf 3 = .ok (.invokestatic 83, 3) := by decide +kernel
theorem dX8_bestOf_6 : decode cX8_bestOf 6 = .ok (.ifCond .eq 14, 3) := by decide +kernel
theorem dX8_bestOf_9 : decode cX8_bestOf 9 = .ok (.aload_n 0, 1) := by decide +kernel
theorem dX8_bestOf_10 : decode cX8_bestOf 10 = .ok (.getfield 10, 3) := by decide +kernel
theorem dX8_bestOf_13 : decode cX8_bestOf 13 = .ok (.iload_n 2, 1) := by decide +kernel
theorem dX8_bestOf_14 : decode cX8_bestOf 14 = .ok (.invokevirtual 136, 3) := by decide +kernel
theorem dX8_bestOf_17 : decode cX8_bestOf 17 = .ok (.ifCond .ne 5, 3) := by decide +kernel
theorem dX8_bestOf_20 : decode cX8_bestOf 20 = .ok (.iconst (-1), 1) := by decide +kernel
theorem dX8_bestOf_21 : decode cX8_bestOf 21 = .ok (.ireturn, 1) := by decide +kernel
theorem dX8_bestOf_22 : decode cX8_bestOf 22 = .ok (.aload_n 0, 1) := by decide +kernel
theorem dX8_bestOf_23 : decode cX8_bestOf 23 = .ok (.getfield 36, 3) := by decide +kernel
theorem dX8_bestOf_26 : decode cX8_bestOf 26 = .ok (.iload_n 1, 1) := by decide +kernel
theorem dX8_bestOf_27 : decode cX8_bestOf 27 = .ok (.invokevirtual 228, 3) := by decide +kernel
theorem dX8_bestOf_30 : decode cX8_bestOf 30 = .ok (.aload_n 0, 1) := by decide +kernel
theorem dX8_bestOf_31 : decode cX8_bestOf 31 = .ok (.getfield 36, 3) := by decide +kernel
theorem dX8_bestOf_34 : decode cX8_bestOf 34 = .ok (.iload_n 2, 1) := by decide +kernel
theorem dX8_bestOf_35 : decode cX8_bestOf 35 = .ok (.invokevirtual 234, 3) := by decide +kernel
theorem dX8_bestOf_38 : decode cX8_bestOf 38 = .ok (.istore_n 3, 1) := by decide +kernel
theorem dX8_bestOf_39 : decode cX8_bestOf 39 = .ok (.iload_n 3, 1) := by decide +kernel
theorem dX8_bestOf_40 : decode cX8_bestOf 40 = .ok (.iload_n 2, 1) := by decide +kernel
theorem dX8_bestOf_41 : decode cX8_bestOf 41 = .ok (.if_icmp .ne 7, 3) := by decide +kernel
theorem dX8_bestOf_44 : decode cX8_bestOf 44 = .ok (.iconst 0, 1) := by decide +kernel
theorem dX8_bestOf_45 : decode cX8_bestOf 45 = .ok (.goto 6, 3) := by decide +kernel
theorem dX8_bestOf_48 : decode cX8_bestOf 48 = .ok (.iload_n 3, 1) := by decide +kernel
theorem dX8_bestOf_49 : decode cX8_bestOf 49 = .ok (.iconst 1, 1) := by decide +kernel
theorem dX8_bestOf_50 : decode cX8_bestOf 50 = .ok (.iadd, 1) := by decide +kernel
theorem dX8_bestOf_51 : decode cX8_bestOf 51 = .ok (.ireturn, 1) := by decide +kernel
set_option maxRecDepth 20000 in
theorem ggX8_fits_X8_isSheet : GoodIn wsX8_fits wsX8_isSheet := goodIn_r _ [7, 8, 9, 6, 10] (by decide +kernel) (by decide +kernel)
set_option maxRecDepth 20000 in
theorem gX8_fits_X8_isSheet : GoodIn wsX8_fits (va_wsS RX8 237 yX8_isSheet wsX8_isSheet) := goodIn_app (goodIn_of _ (by decide +kernel)) ggX8_fits_X8_isSheet
set_option maxRecDepth 20000 in
theorem ggX8_fits_X6_has : GoodIn wsX8_fits wsX6_has := goodIn_r _ [15, 16, 109, 110, 111, 112, 113, 114, 115, 116, 117, 118, 119, 120] (by decide +kernel) (by decide +kernel)
set_option maxRecDepth 20000 in
theorem gX8_fits_X6_has : GoodIn wsX8_fits (wsV RX8 136 RX6 yX6_has wsX6_has) := goodIn_app (goodIn_of _ (by decide +kernel)) ggX8_fits_X6_has
set_option maxRecDepth 20000 in
theorem ggX8_fits_X8_within : GoodIn wsX8_fits wsX8_within := goodIn_r _ [10] (by decide +kernel) (by decide +kernel)
set_option maxRecDepth 20000 in
theorem gX8_fits_X8_within : GoodIn wsX8_fits (va_wsS RX8 83 yX8_within wsX8_within) := goodIn_app (goodIn_of _ (by decide +kernel)) ggX8_fits_X8_within
set_option maxRecDepth 20000 in
theorem ggX8_fits_X7_howManyFit : GoodIn wsX8_fits wsX7_howManyFit := goodIn_r _ [21, 22, 23, 24, 20, 25, 26, 27, 28, 29, 30, 31, 32, 33, 34, 14, 35, 36, 37, 38, 16, 39, 40, 41, 42, 43, 44, 45, 46, 47, 48, 49, 50, 51, 52, 53, 54, 55, 56, 57, 58, 59, 60, 61, 62, 63, 64, 65, 66, 67, 68, 69, 70, 71, 72, 73, 74, 75, 12, 13, 15, 76, 77, 78, 79, 80, 81, 82, 83, 84, 85, 86, 87, 88, 89, 90, 91, 121, 122, 109, 110, 111, 112, 113, 114, 115, 116, 117, 118, 119, 120, 123, 124] (by decide +kernel) (by decide +kernel)
set_option maxRecDepth 20000 in
theorem gX8_fits_X7_howManyFit : GoodIn wsX8_fits (wsV RX8 240 RX7 yX7_howManyFit wsX7_howManyFit) := goodIn_app (goodIn_of _ (by decide +kernel)) ggX8_fits_X7_howManyFit
set_option maxRecDepth 20000 in
theorem ggX8_fits_X7_leastFit : GoodIn wsX8_fits wsX7_leastFit := goodIn_r _ [95, 22, 23, 24, 20, 25, 26, 27, 28, 29, 30, 31, 32, 33, 34, 14, 35, 36, 37, 38, 16, 39, 40, 41, 42, 43, 44, 45, 46, 47, 48, 49, 50, 51, 52, 53, 54, 55, 56, 57, 58, 59, 60, 61, 62, 63, 64, 65, 66, 67, 68, 69, 70, 71, 72, 73, 74, 75, 12, 13, 15, 76, 77, 78, 79, 80, 81, 82, 83, 84, 85, 86, 87, 88, 89, 90, 91, 121, 122, 109, 110, 111, 112, 113, 114, 115, 116, 117, 118, 119, 120, 123, 124] (by decide +kernel) (by decide +kernel)
set_option maxRecDepth 20000 in
theorem gX8_fits_X7_leastFit : GoodIn wsX8_fits (wsV RX8 244 RX7 yX7_leastFit wsX7_leastFit) := goodIn_app (goodIn_of _ (by decide +kernel)) ggX8_fits_X7_leastFit
theorem dX8_fits_0 : decode cX8_fits 0 = .ok (.iload_n 1, 1) := by decide +kernel
theorem dX8_fits_1 : decode cX8_fits 1 = .ok (.invokestatic 237, 3) := by decide +kernel
theorem dX8_fits_4 : decode cX8_fits 4 = .ok (.ifCond .eq 23, 3) := by decide +kernel
theorem dX8_fits_7 : decode cX8_fits 7 = .ok (.aload_n 0, 1) := by decide +kernel
theorem dX8_fits_8 : decode cX8_fits 8 = .ok (.getfield 10, 3) := by decide +kernel
theorem dX8_fits_11 : decode cX8_fits 11 = .ok (.iload_n 2, 1) := by decide +kernel
theorem dX8_fits_12 : decode cX8_fits 12 = .ok (.invokevirtual 136, 3) := by decide +kernel
theorem dX8_fits_15 : decode cX8_fits 15 = .ok (.ifCond .eq 12, 3) := by decide +kernel
theorem dX8_fits_18 : decode cX8_fits 18 = .ok (.iload_n 3, 1) := by decide +kernel
theorem dX8_fits_19 : decode cX8_fits 19 = .ok (.iconst 0, 1) := by decide +kernel
theorem dX8_fits_20 : decode cX8_fits 20 = .ok (.iconst 1, 1) := by decide +kernel
theorem dX8_fits_21 : decode cX8_fits 21 = .ok (.invokestatic 83, 3) := by decide +kernel
theorem dX8_fits_24 : decode cX8_fits 24 = .ok (.ifCond .ne 5, 3) := by decide +kernel
theorem dX8_fits_27 : decode cX8_fits 27 = .ok (.iconst (-1), 1) := by decide +kernel
theorem dX8_fits_28 : decode cX8_fits 28 = .ok (.ireturn, 1) := by decide +kernel
theorem dX8_fits_29 : decode cX8_fits 29 = .ok (.aload_n 0, 1) := by decide +kernel
theorem dX8_fits_30 : decode cX8_fits 30 = .ok (.getfield 72, 3) := by decide +kernel
theorem dX8_fits_33 : decode cX8_fits 33 = .ok (.iload_n 1, 1) := by decide +kernel
theorem dX8_fits_34 : decode cX8_fits 34 = .ok (.aaload, 1) := by decide +kernel
theorem dX8_fits_35 : decode cX8_fits 35 = .ok (.astore 4, 2) := by decide +kernel
theorem dX8_fits_37 : decode cX8_fits 37 = .ok (.aload 4, 2) := by decide +kernel
theorem dX8_fits_39 : decode cX8_fits 39 = .ok (.ifnonnull 6, 3) := by decide +kernel
theorem dX8_fits_42 : decode cX8_fits 42 = .ok (.bipush (-11), 2) := by decide +kernel
theorem dX8_fits_44 : decode cX8_fits 44 = .ok (.ireturn, 1) := by decide +kernel
theorem dX8_fits_45 : decode cX8_fits 45 = .ok (.iload_n 3, 1) := by decide +kernel
theorem dX8_fits_46 : decode cX8_fits 46 = .ok (.ifCond .ne 16, 3) := by decide +kernel
theorem dX8_fits_49 : decode cX8_fits 49 = .ok (.aload_n 0, 1) := by decide +kernel
theorem dX8_fits_50 : decode cX8_fits 50 = .ok (.getfield 27, 3) := by decide +kernel
theorem dX8_fits_53 : decode cX8_fits 53 = .ok (.aload 4, 2) := by decide +kernel
theorem dX8_fits_55 : decode cX8_fits 55 = .ok (.iload_n 2, 1) := by decide +kernel
theorem dX8_fits_56 : decode cX8_fits 56 = .ok (.invokevirtual 240, 3) := by decide +kernel
theorem dX8_fits_59 : decode cX8_fits 59 = .ok (.goto 13, 3) := by decide +kernel
theorem dX8_fits_62 : decode cX8_fits 62 = .ok (.aload_n 0, 1) := by decide +kernel
theorem dX8_fits_63 : decode cX8_fits 63 = .ok (.getfield 27, 3) := by decide +kernel
theorem dX8_fits_66 : decode cX8_fits 66 = .ok (.aload 4, 2) := by decide +kernel
theorem dX8_fits_68 : decode cX8_fits 68 = .ok (.iload_n 2, 1) := by decide +kernel
theorem dX8_fits_69 : decode cX8_fits 69 = .ok (.invokevirtual 244, 3) := by decide +kernel
theorem dX8_fits_72 : decode cX8_fits 72 = .ok (.ireturn, 1) := by decide +kernel
set_option maxRecDepth 20000 in
theorem ggX8_odds_X8_within : GoodIn wsX8_odds wsX8_within := goodIn_r _ [8] (by decide +kernel) (by decide +kernel)
set_option maxRecDepth 20000 in
theorem gX8_odds_X8_within : GoodIn wsX8_odds (va_wsS RX8 83 yX8_within wsX8_within) := goodIn_app (goodIn_of _ (by decide +kernel)) ggX8_odds_X8_within
set_option maxRecDepth 20000 in
theorem ggX8_odds_X8_waysToDraw : GoodIn wsX8_odds wsX8_waysToDraw := goodIn_r _ [11] (by decide +kernel) (by decide +kernel)
set_option maxRecDepth 20000 in
theorem gX8_odds_X8_waysToDraw : GoodIn wsX8_odds (va_wsS RX8 249 yX8_waysToDraw wsX8_waysToDraw) := goodIn_app (goodIn_of _ (by decide +kernel)) ggX8_odds_X8_waysToDraw
set_option maxRecDepth 20000 in
theorem ggX8_odds_X8_power : GoodIn wsX8_odds wsX8_power := goodIn_r _ [14] (by decide +kernel) (by decide +kernel)
set_option maxRecDepth 20000 in
theorem gX8_odds_X8_power : GoodIn wsX8_odds (va_wsS RX8 253 yX8_power wsX8_power) := goodIn_app (goodIn_of _ (by decide +kernel)) ggX8_odds_X8_power
set_option maxRecDepth 20000 in
theorem ggX8_odds_X8_partOf : GoodIn wsX8_odds wsX8_partOf := goodIn_r _ [17, 18, 19, 7, 20] (by decide +kernel) (by decide +kernel)
set_option maxRecDepth 20000 in
theorem gX8_odds_X8_partOf : GoodIn wsX8_odds (va_wsS RX8 259 yX8_partOf wsX8_partOf) := goodIn_app (goodIn_of _ (by decide +kernel)) ggX8_odds_X8_partOf
theorem dX8_odds_0 : decode cX8_odds 0 = .ok (.iload_n 1, 1) := by decide +kernel
theorem dX8_odds_1 : decode cX8_odds 1 = .ok (.iconst 0, 1) := by decide +kernel
theorem dX8_odds_2 : decode cX8_odds 2 = .ok (.bipush 8, 2) := by decide +kernel
theorem dX8_odds_4 : decode cX8_odds 4 = .ok (.invokestatic 83, 3) := by decide +kernel
theorem dX8_odds_7 : decode cX8_odds 7 = .ok (.ifCond .eq 21, 3) := by decide +kernel
theorem dX8_odds_10 : decode cX8_odds 10 = .ok (.iload_n 2, 1) := by decide +kernel
theorem dX8_odds_11 : decode cX8_odds 11 = .ok (.iconst 0, 1) := by decide +kernel
theorem dX8_odds_12 : decode cX8_odds 12 = .ok (.iload_n 1, 1) := by decide +kernel
theorem dX8_odds_13 : decode cX8_odds 13 = .ok (.invokestatic 83, 3) := by decide +kernel
theorem dX8_odds_16 : decode cX8_odds 16 = .ok (.ifCond .eq 12, 3) := by decide +kernel
theorem dX8_odds_19 : decode cX8_odds 19 = .ok (.iload_n 3, 1) := by decide +kernel
theorem dX8_odds_20 : decode cX8_odds 20 = .ok (.iconst 0, 1) := by decide +kernel
theorem dX8_odds_21 : decode cX8_odds 21 = .ok (.iconst 1, 1) := by decide +kernel
theorem dX8_odds_22 : decode cX8_odds 22 = .ok (.invokestatic 83, 3) := by decide +kernel
theorem dX8_odds_25 : decode cX8_odds 25 = .ok (.ifCond .ne 7, 3) := by decide +kernel
theorem dX8_odds_28 : decode cX8_odds 28 = .ok (.ldc2_w 247, 3) := by decide +kernel
theorem dX8_odds_31 : decode cX8_odds 31 = .ok (.lreturn, 1) := by decide +kernel
theorem dX8_odds_32 : decode cX8_odds 32 = .ok (.aload_n 0, 1) := by decide +kernel
theorem dX8_odds_33 : decode cX8_odds 33 = .ok (.getfield 10, 3) := by decide +kernel
theorem dX8_odds_36 : decode cX8_odds 36 = .ok (.getfield 123, 3) := by decide +kernel
theorem dX8_odds_39 : decode cX8_odds 39 = .ok (.iconst 3, 1) := by decide +kernel
theorem dX8_odds_40 : decode cX8_odds 40 = .ok (.iaload, 1) := by decide +kernel
theorem dX8_odds_41 : decode cX8_odds 41 = .ok (.i2l, 1) := by decide +kernel
theorem dX8_odds_42 : decode cX8_odds 42 = .ok (.lstore 4, 2) := by decide +kernel
theorem dX8_odds_44 : decode cX8_odds 44 = .ok (.iload_n 1, 1) := by decide +kernel
theorem dX8_odds_45 : decode cX8_odds 45 = .ok (.iload_n 2, 1) := by decide +kernel
theorem dX8_odds_46 : decode cX8_odds 46 = .ok (.invokestatic 249, 3) := by decide +kernel
theorem dX8_odds_49 : decode cX8_odds 49 = .ok (.lload 4, 2) := by decide +kernel
theorem dX8_odds_51 : decode cX8_odds 51 = .ok (.iload_n 2, 1) := by decide +kernel
theorem dX8_odds_52 : decode cX8_odds 52 = .ok (.invokestatic 253, 3) := by decide +kernel
theorem dX8_odds_55 : decode cX8_odds 55 = .ok (.lmul, 1) := by decide +kernel
theorem dX8_odds_56 : decode cX8_odds 56 = .ok (.ldc2_w 257, 3) := by decide +kernel
theorem dX8_odds_59 : decode cX8_odds 59 = .ok (.lload 4, 2) := by decide +kernel
theorem dX8_odds_61 : decode cX8_odds 61 = .ok (.lsub, 1) := by decide +kernel
theorem dX8_odds_62 : decode cX8_odds 62 = .ok (.iload_n 1, 1) := by decide +kernel
theorem dX8_odds_63 : decode cX8_odds 63 = .ok (.iload_n 2, 1) := by decide +kernel
theorem dX8_odds_64 : decode cX8_odds 64 = .ok (.isub, 1) := by decide +kernel
theorem dX8_odds_65 : decode cX8_odds 65 = .ok (.invokestatic 253, 3) := by decide +kernel
theorem dX8_odds_68 : decode cX8_odds 68 = .ok (.lmul, 1) := by decide +kernel
theorem dX8_odds_69 : decode cX8_odds 69 = .ok (.lstore 6, 2) := by decide +kernel
theorem dX8_odds_71 : decode cX8_odds 71 = .ok (.lload 6, 2) := by decide +kernel
theorem dX8_odds_73 : decode cX8_odds 73 = .ok (.ldc2_w 257, 3) := by decide +kernel
theorem dX8_odds_76 : decode cX8_odds 76 = .ok (.iload_n 1, 1) := by decide +kernel
theorem dX8_odds_77 : decode cX8_odds 77 = .ok (.invokestatic 253, 3) := by decide +kernel
theorem dX8_odds_80 : decode cX8_odds 80 = .ok (.iload_n 3, 1) := by decide +kernel
theorem dX8_odds_81 : decode cX8_odds 81 = .ok (.invokestatic 259, 3) := by decide +kernel
theorem dX8_odds_84 : decode cX8_odds 84 = .ok (.lreturn, 1) := by decide +kernel
set_option maxRecDepth 20000 in
theorem ggX8_hope_X8_within : GoodIn wsX8_hope wsX8_within := goodIn_r _ [8] (by decide +kernel) (by decide +kernel)
set_option maxRecDepth 20000 in
theorem gX8_hope_X8_within : GoodIn wsX8_hope (va_wsS RX8 83 yX8_within wsX8_within) := goodIn_app (goodIn_of _ (by decide +kernel)) ggX8_hope_X8_within
set_option maxRecDepth 20000 in
theorem ggX8_hope_X8_partOf : GoodIn wsX8_hope wsX8_partOf := goodIn_r _ [11, 12, 13, 7, 14] (by decide +kernel) (by decide +kernel)
set_option maxRecDepth 20000 in
theorem gX8_hope_X8_partOf : GoodIn wsX8_hope (va_wsS RX8 259 yX8_partOf wsX8_partOf) := goodIn_app (goodIn_of _ (by decide +kernel)) ggX8_hope_X8_partOf
theorem dX8_hope_0 : decode cX8_hope 0 = .ok (.iload_n 1, 1) := by decide +kernel
theorem dX8_hope_1 : decode cX8_hope 1 = .ok (.iconst 0, 1) := by decide +kernel
theorem dX8_hope_2 : decode cX8_hope 2 = .ok (.bipush 99, 2) := by decide +kernel
theorem dX8_hope_4 : decode cX8_hope 4 = .ok (.invokestatic 83, 3) := by decide +kernel
theorem dX8_hope_7 : decode cX8_hope 7 = .ok (.ifCond .eq 12, 3) := by decide +kernel
theorem dX8_hope_10 : decode cX8_hope 10 = .ok (.iload_n 2, 1) := by decide +kernel
theorem dX8_hope_11 : decode cX8_hope 11 = .ok (.iconst 0, 1) := by decide +kernel
theorem dX8_hope_12 : decode cX8_hope 12 = .ok (.iconst 1, 1) := by decide +kernel
theorem dX8_hope_13 : decode cX8_hope 13 = .ok (.invokestatic 83, 3) := by decide +kernel
theorem dX8_hope_16 : decode cX8_hope 16 = .ok (.ifCond .ne 7, 3) := by decide +kernel
theorem dX8_hope_19 : decode cX8_hope 19 = .ok (.ldc2_w 247, 3) := by decide +kernel
theorem dX8_hope_22 : decode cX8_hope 22 = .ok (.lreturn, 1) := by decide +kernel
theorem dX8_hope_23 : decode cX8_hope 23 = .ok (.iload_n 1, 1) := by decide +kernel
theorem dX8_hope_24 : decode cX8_hope 24 = .ok (.i2l, 1) := by decide +kernel
theorem dX8_hope_25 : decode cX8_hope 25 = .ok (.aload_n 0, 1) := by decide +kernel
theorem dX8_hope_26 : decode cX8_hope 26 = .ok (.getfield 10, 3) := by decide +kernel
theorem dX8_hope_29 : decode cX8_hope 29 = .ok (.getfield 123, 3) := by decide +kernel
theorem dX8_hope_32 : decode cX8_hope 32 = .ok (.iconst 3, 1) := by decide +kernel
theorem dX8_hope_33 : decode cX8_hope 33 = .ok (.iaload, 1) := by decide +kernel
theorem dX8_hope_34 : decode cX8_hope 34 = .ok (.i2l, 1) := by decide +kernel
theorem dX8_hope_35 : decode cX8_hope 35 = .ok (.lmul, 1) := by decide +kernel
theorem dX8_hope_36 : decode cX8_hope 36 = .ok (.ldc2_w 257, 3) := by decide +kernel
theorem dX8_hope_39 : decode cX8_hope 39 = .ok (.iload_n 2, 1) := by decide +kernel
theorem dX8_hope_40 : decode cX8_hope 40 = .ok (.invokestatic 259, 3) := by decide +kernel
theorem dX8_hope_43 : decode cX8_hope 43 = .ok (.lreturn, 1) := by decide +kernel
set_option maxRecDepth 20000 in
theorem ggX8_prove_X6_has : GoodIn wsX8_prove wsX6_has := goodIn_r _ [7, 8, 101, 102, 103, 104, 105, 106, 107, 108, 109, 110, 111, 112] (by decide +kernel) (by decide +kernel)
set_option maxRecDepth 20000 in
theorem gX8_prove_X6_has : GoodIn wsX8_prove (wsV RX8 136 RX6 yX6_has wsX6_has) := goodIn_app (goodIn_of _ (by decide +kernel)) ggX8_prove_X6_has
set_option maxRecDepth 20000 in
theorem ggX8_prove_X8_within : GoodIn wsX8_prove wsX8_within := goodIn_r _ [12] (by decide +kernel) (by decide +kernel)
set_option maxRecDepth 20000 in
theorem gX8_prove_X8_within : GoodIn wsX8_prove (va_wsS RX8 83 yX8_within wsX8_within) := goodIn_app (goodIn_of _ (by decide +kernel)) ggX8_prove_X8_within
set_option maxRecDepth 20000 in
theorem ggX8_prove_X0_write : GoodIn wsX8_prove wsX0_write := goodIn_r _ [17, 18, 19, 20, 21, 22, 23, 24, 25, 26, 6, 27, 28, 29, 30, 8, 31, 32, 33, 34, 35, 36, 37, 38, 39, 40, 41, 42, 43, 44, 45, 46, 47, 48, 49, 50, 51, 52, 53, 54, 55, 56, 57, 58, 59, 60, 61, 62, 63, 64, 65, 66, 67, 4, 5, 7, 68, 69, 70, 71, 72, 73, 74, 75, 76, 77, 78, 79, 80, 81, 82, 83, 84, 85, 86, 16, 87, 113, 114, 115, 116, 101, 102, 103, 104, 105, 106, 107, 108, 109, 110, 111, 112] (by decide +kernel) (by decide +kernel)
set_option maxRecDepth 20000 in
theorem gX8_prove_X0_write : GoodIn wsX8_prove (wsV RX8 263 RX0 yX0_write wsX0_write) := goodIn_app (goodIn_of _ (by decide +kernel)) ggX8_prove_X0_write
theorem dX8_prove_0 : decode cX8_prove 0 = .ok (.aload_n 0, 1) := by decide +kernel
theorem dX8_prove_1 : decode cX8_prove 1 = .ok (.getfield 10, 3) := by decide +kernel
theorem dX8_prove_4 : decode cX8_prove 4 = .ok (.iload_n 1, 1) := by decide +kernel
theorem dX8_prove_5 : decode cX8_prove 5 = .ok (.invokevirtual 136, 3) := by decide +kernel
theorem dX8_prove_8 : decode cX8_prove 8 = .ok (.ifCond .eq 13, 3) := by decide +kernel
theorem dX8_prove_11 : decode cX8_prove 11 = .ok (.iload_n 2, 1) := by decide +kernel
theorem dX8_prove_12 : decode cX8_prove 12 = .ok (.iconst 1, 1) := by decide +kernel
theorem dX8_prove_13 : decode cX8_prove 13 = .ok (.bipush 10, 2) := by decide +kernel
theorem dX8_prove_15 : decode cX8_prove 15 = .ok (.invokestatic 83, 3) := by decide +kernel
theorem dX8_prove_18 : decode cX8_prove 18 = .ok (.ifCond .ne 5, 3) := by decide +kernel
theorem dX8_prove_21 : decode cX8_prove 21 = .ok (.iconst (-1), 1) := by decide +kernel
theorem dX8_prove_22 : decode cX8_prove 22 = .ok (.ireturn, 1) := by decide +kernel
theorem dX8_prove_23 : decode cX8_prove 23 = .ok (.aload_n 0, 1) := by decide +kernel
theorem dX8_prove_24 : decode cX8_prove 24 = .ok (.getfield 59, 3) := by decide +kernel
theorem dX8_prove_27 : decode cX8_prove 27 = .ok (.iload_n 1, 1) := by decide +kernel
theorem dX8_prove_28 : decode cX8_prove 28 = .ok (.iload_n 2, 1) := by decide +kernel
theorem dX8_prove_29 : decode cX8_prove 29 = .ok (.invokevirtual 263, 3) := by decide +kernel
theorem dX8_prove_32 : decode cX8_prove 32 = .ok (.iload_n 2, 1) := by decide +kernel
theorem dX8_prove_33 : decode cX8_prove 33 = .ok (.ireturn, 1) := by decide +kernel
set_option maxRecDepth 20000 in
theorem ggX8_row_X0_has : GoodIn wsX8_row wsX0_has := goodIn_r _ [7, 8, 26, 27, 28, 29] (by decide +kernel) (by decide +kernel)
set_option maxRecDepth 20000 in
theorem gX8_row_X0_has : GoodIn wsX8_row (wsV RX8 266 RX0 yX0_has wsX0_has) := goodIn_app (goodIn_of _ (by decide +kernel)) ggX8_row_X0_has
set_option maxRecDepth 20000 in
theorem ggX8_row_X0_placeOf : GoodIn wsX8_row wsX0_placeOf := goodIn_r _ [12] (by decide +kernel) (by decide +kernel)
set_option maxRecDepth 20000 in
theorem gX8_row_X0_placeOf : GoodIn wsX8_row (wsV RX8 272 RX0 yX0_placeOf wsX0_placeOf) := goodIn_app (goodIn_of _ (by decide +kernel)) ggX8_row_X0_placeOf
theorem dX8_row_0 : decode cX8_row 0 = .ok (.aload_n 0, 1) := by decide +kernel
theorem dX8_row_1 : decode cX8_row 1 = .ok (.getfield 59, 3) := by decide +kernel
theorem dX8_row_4 : decode cX8_row 4 = .ok (.iload_n 1, 1) := by decide +kernel
theorem dX8_row_5 : decode cX8_row 5 = .ok (.iload_n 2, 1) := by decide +kernel
theorem dX8_row_6 : decode cX8_row 6 = .ok (.invokevirtual 266, 3) := by decide +kernel
theorem dX8_row_9 : decode cX8_row 9 = .ok (.ifCond .eq 23, 3) := by decide +kernel
theorem dX8_row_12 : decode cX8_row 12 = .ok (.aload_n 0, 1) := by decide +kernel
theorem dX8_row_13 : decode cX8_row 13 = .ok (.getfield 59, 3) := by decide +kernel
theorem dX8_row_16 : decode cX8_row 16 = .ok (.getfield 269, 3) := by decide +kernel
theorem dX8_row_19 : decode cX8_row 19 = .ok (.aload_n 0, 1) := by decide +kernel
theorem dX8_row_20 : decode cX8_row 20 = .ok (.getfield 59, 3) := by decide +kernel
theorem dX8_row_23 : decode cX8_row 23 = .ok (.iload_n 1, 1) := by decide +kernel
theorem dX8_row_24 : decode cX8_row 24 = .ok (.iload_n 2, 1) := by decide +kernel
theorem dX8_row_25 : decode cX8_row 25 = .ok (.invokevirtual 272, 3) := by decide +kernel
theorem dX8_row_28 : decode cX8_row 28 = .ok (.iaload, 1) := by decide +kernel
theorem dX8_row_29 : decode cX8_row 29 = .ok (.goto 5, 3) := by decide +kernel
theorem dX8_row_32 : decode cX8_row 32 = .ok (.bipush (-9), 2) := by decide +kernel
theorem dX8_row_34 : decode cX8_row 34 = .ok (.ireturn, 1) := by decide +kernel
set_option maxRecDepth 20000 in
theorem ggX8_alterRow_X0_has : GoodIn wsX8_alterRow wsX0_has := goodIn_r _ [7, 8, 26, 27, 28, 29] (by decide +kernel) (by decide +kernel)
set_option maxRecDepth 20000 in
theorem gX8_alterRow_X0_has : GoodIn wsX8_alterRow (wsV RX8 266 RX0 yX0_has wsX0_has) := goodIn_app (goodIn_of _ (by decide +kernel)) ggX8_alterRow_X0_has
set_option maxRecDepth 20000 in
theorem ggX8_alterRow_X0_placeOf : GoodIn wsX8_alterRow wsX0_placeOf := goodIn_r _ [12] (by decide +kernel) (by decide +kernel)
set_option maxRecDepth 20000 in
theorem gX8_alterRow_X0_placeOf : GoodIn wsX8_alterRow (wsV RX8 272 RX0 yX0_placeOf wsX0_placeOf) := goodIn_app (goodIn_of _ (by decide +kernel)) ggX8_alterRow_X0_placeOf
theorem dX8_alterRow_0 : decode cX8_alterRow 0 = .ok (.aload_n 0, 1) := by decide +kernel
theorem dX8_alterRow_1 : decode cX8_alterRow 1 = .ok (.getfield 59, 3) := by decide +kernel
theorem dX8_alterRow_4 : decode cX8_alterRow 4 = .ok (.iload_n 1, 1) := by decide +kernel
theorem dX8_alterRow_5 : decode cX8_alterRow 5 = .ok (.iload_n 2, 1) := by decide +kernel
theorem dX8_alterRow_6 : decode cX8_alterRow 6 = .ok (.invokevirtual 266, 3) := by decide +kernel
theorem dX8_alterRow_9 : decode cX8_alterRow 9 = .ok (.ifCond .ne 6, 3) := by decide +kernel
theorem dX8_alterRow_12 : decode cX8_alterRow 12 = .ok (.bipush (-9), 2) := by decide +kernel
theorem dX8_alterRow_14 : decode cX8_alterRow 14 = .ok (.ireturn, 1) := by decide +kernel
theorem dX8_alterRow_15 : decode cX8_alterRow 15 = .ok (.aload_n 0, 1) := by decide +kernel
theorem dX8_alterRow_16 : decode cX8_alterRow 16 = .ok (.getfield 59, 3) := by decide +kernel
theorem dX8_alterRow_19 : decode cX8_alterRow 19 = .ok (.iload_n 1, 1) := by decide +kernel
theorem dX8_alterRow_20 : decode cX8_alterRow 20 = .ok (.iload_n 2, 1) := by decide +kernel
theorem dX8_alterRow_21 : decode cX8_alterRow 21 = .ok (.invokevirtual 272, 3) := by decide +kernel
theorem dX8_alterRow_24 : decode cX8_alterRow 24 = .ok (.istore 4, 2) := by decide +kernel
theorem dX8_alterRow_26 : decode cX8_alterRow 26 = .ok (.aload_n 0, 1) := by decide +kernel
theorem dX8_alterRow_27 : decode cX8_alterRow 27 = .ok (.getfield 59, 3) := by decide +kernel
theorem dX8_alterRow_30 : decode cX8_alterRow 30 = .ok (.getfield 269, 3) := by decide +kernel
theorem dX8_alterRow_33 : decode cX8_alterRow 33 = .ok (.iload 4, 2) := by decide +kernel
theorem dX8_alterRow_35 : decode cX8_alterRow 35 = .ok (.iaload, 1) := by decide +kernel
theorem dX8_alterRow_36 : decode cX8_alterRow 36 = .ok (.istore 5, 2) := by decide +kernel
theorem dX8_alterRow_38 : decode cX8_alterRow 38 = .ok (.aload_n 0, 1) := by decide +kernel
theorem dX8_alterRow_39 : decode cX8_alterRow 39 = .ok (.getfield 59, 3) := by decide +kernel
theorem dX8_alterRow_42 : decode cX8_alterRow 42 = .ok (.getfield 269, 3) := by decide +kernel
theorem dX8_alterRow_45 : decode cX8_alterRow 45 = .ok (.iload 4, 2) := by decide +kernel
theorem dX8_alterRow_47 : decode cX8_alterRow 47 = .ok (.iload_n 3, 1) := by decide +kernel
theorem dX8_alterRow_48 : decode cX8_alterRow 48 = .ok (.iastore, 1) := by decide +kernel
theorem dX8_alterRow_49 : decode cX8_alterRow 49 = .ok (.iload 5, 2) := by decide +kernel
theorem dX8_alterRow_51 : decode cX8_alterRow 51 = .ok (.ireturn, 1) := by decide +kernel
set_option maxRecDepth 20000 in
theorem ggX8_judge_X6_has : GoodIn wsX8_judge wsX6_has := goodIn_r _ [7, 8, 97, 98, 99, 100, 101, 102, 103, 104, 105, 106, 107, 108] (by decide +kernel) (by decide +kernel)
set_option maxRecDepth 20000 in
theorem gX8_judge_X6_has : GoodIn wsX8_judge (wsV RX8 136 RX6 yX6_has wsX6_has) := goodIn_app (goodIn_of _ (by decide +kernel)) ggX8_judge_X6_has
set_option maxRecDepth 20000 in
theorem ggX8_judge_X0_firstWrong : GoodIn wsX8_judge wsX0_firstWrong := goodIn_r _ [13, 14, 15, 16, 17, 18, 19, 20, 21, 22, 6, 23, 24, 25, 26, 8, 27, 28, 29, 30, 31, 32, 33, 34, 35, 36, 37, 38, 39, 40, 41, 42, 43, 44, 45, 46, 47, 48, 49, 50, 51, 52, 53, 54, 55, 56, 57, 58, 59, 60, 61, 62, 63, 4, 5, 7, 64, 65, 66, 67, 68, 69, 70, 71, 72, 73, 74, 75, 76, 77, 78, 79, 80, 81, 82, 12, 83, 109, 110, 111, 112, 97, 98, 99, 100, 101, 102, 103, 104, 105, 106, 107, 108] (by decide +kernel) (by decide +kernel)
set_option maxRecDepth 20000 in
theorem gX8_judge_X0_firstWrong : GoodIn wsX8_judge (wsV RX8 275 RX0 yX0_firstWrong wsX0_firstWrong) := goodIn_app (goodIn_of _ (by decide +kernel)) ggX8_judge_X0_firstWrong
theorem dX8_judge_0 : decode cX8_judge 0 = .ok (.aload_n 0, 1) := by decide +kernel
theorem dX8_judge_1 : decode cX8_judge 1 = .ok (.getfield 10, 3) := by decide +kernel
theorem dX8_judge_4 : decode cX8_judge 4 = .ok (.iload_n 1, 1) := by decide +kernel
theorem dX8_judge_5 : decode cX8_judge 5 = .ok (.invokevirtual 136, 3) := by decide +kernel
theorem dX8_judge_8 : decode cX8_judge 8 = .ok (.ifCond .eq 14, 3) := by decide +kernel
theorem dX8_judge_11 : decode cX8_judge 11 = .ok (.aload_n 0, 1) := by decide +kernel
theorem dX8_judge_12 : decode cX8_judge 12 = .ok (.getfield 59, 3) := by decide +kernel
theorem dX8_judge_15 : decode cX8_judge 15 = .ok (.iload_n 1, 1) := by decide +kernel
theorem dX8_judge_16 : decode cX8_judge 16 = .ok (.invokevirtual 275, 3) := by decide +kernel
theorem dX8_judge_19 : decode cX8_judge 19 = .ok (.goto 4, 3) := by decide +kernel
theorem dX8_judge_22 : decode cX8_judge 22 = .ok (.iconst (-1), 1) := by decide +kernel
theorem dX8_judge_23 : decode cX8_judge 23 = .ok (.ireturn, 1) := by decide +kernel
set_option maxRecDepth 20000 in
theorem ggX8_minds_X8_isSheet : GoodIn wsX8_minds wsX8_isSheet := goodIn_r _ [17, 18, 19, 16, 20] (by decide +kernel) (by decide +kernel)
set_option maxRecDepth 20000 in
theorem gX8_minds_X8_isSheet : GoodIn wsX8_minds (va_wsS RX8 237 yX8_isSheet wsX8_isSheet) := goodIn_app (goodIn_of _ (by decide +kernel)) ggX8_minds_X8_isSheet
set_option maxRecDepth 20000 in
theorem ggX8_minds_X6_has : GoodIn wsX8_minds wsX6_has := goodIn_r _ [25, 26, 40, 41, 42, 43, 44, 45, 46, 47, 48, 49, 50, 51] (by decide +kernel) (by decide +kernel)
set_option maxRecDepth 20000 in
theorem gX8_minds_X6_has : GoodIn wsX8_minds (wsV RX8 136 RX6 yX6_has wsX6_has) := goodIn_app (goodIn_of _ (by decide +kernel)) ggX8_minds_X6_has
set_option maxRecDepth 20000 in
theorem ggX8_minds_X8_within : GoodIn wsX8_minds wsX8_within := goodIn_r _ [20] (by decide +kernel) (by decide +kernel)
set_option maxRecDepth 20000 in
theorem gX8_minds_X8_within : GoodIn wsX8_minds (va_wsS RX8 83 yX8_within wsX8_within) := goodIn_app (goodIn_of _ (by decide +kernel)) ggX8_minds_X8_within
theorem dX8_minds_0 : decode cX8_minds 0 = .ok (.iload_n 1, 1) := by decide +kernel
theorem dX8_minds_1 : decode cX8_minds 1 = .ok (.invokestatic 237, 3) := by decide +kernel
theorem dX8_minds_4 : decode cX8_minds 4 = .ok (.ifCond .eq 39, 3) := by decide +kernel
theorem dX8_minds_7 : decode cX8_minds 7 = .ok (.aload_n 0, 1) := by decide +kernel
theorem dX8_minds_8 : decode cX8_minds 8 = .ok (.getfield 10, 3) := by decide +kernel
theorem dX8_minds_11 : decode cX8_minds 11 = .ok (.iload_n 3, 1) := by decide +kernel
theorem dX8_minds_12 : decode cX8_minds 12 = .ok (.invokevirtual 136, 3) := by decide +kernel
theorem dX8_minds_15 : decode cX8_minds 15 = .ok (.ifCond .eq 28, 3) := by decide +kernel
theorem dX8_minds_18 : decode cX8_minds 18 = .ok (.iload 4, 2) := by decide +kernel
theorem dX8_minds_20 : decode cX8_minds 20 = .ok (.iconst 0, 1) := by decide +kernel
theorem dX8_minds_21 : decode cX8_minds 21 = .ok (.bipush 8, 2) := by decide +kernel
theorem dX8_minds_23 : decode cX8_minds 23 = .ok (.invokestatic 83, 3) := by decide +kernel
theorem dX8_minds_26 : decode cX8_minds 26 = .ok (.ifCond .eq 17, 3) := by decide +kernel
theorem dX8_minds_29 : decode cX8_minds 29 = .ok (.iload_n 3, 1) := by decide +kernel
theorem dX8_minds_30 : decode cX8_minds 30 = .ok (.iload 4, 2) := by decide +kernel
theorem dX8_minds_32 : decode cX8_minds 32 = .ok (.iadd, 1) := by decide +kernel
theorem dX8_minds_33 : decode cX8_minds 33 = .ok (.aload_n 0, 1) := by decide +kernel
theorem dX8_minds_34 : decode cX8_minds 34 = .ok (.getfield 10, 3) := by decide +kernel
theorem dX8_minds_37 : decode cX8_minds 37 = .ok (.getfield 114, 3) := by decide +kernel
theorem dX8_minds_40 : decode cX8_minds 40 = .ok (.if_icmp .le 5, 3) := by decide +kernel
theorem dX8_minds_43 : decode cX8_minds 43 = .ok (.iconst (-1), 1) := by decide +kernel
theorem dX8_minds_44 : decode cX8_minds 44 = .ok (.ireturn, 1) := by decide +kernel
theorem dX8_minds_45 : decode cX8_minds 45 = .ok (.aload_n 0, 1) := by decide +kernel
theorem dX8_minds_46 : decode cX8_minds 46 = .ok (.getfield 72, 3) := by decide +kernel
theorem dX8_minds_49 : decode cX8_minds 49 = .ok (.iload_n 1, 1) := by decide +kernel
theorem dX8_minds_50 : decode cX8_minds 50 = .ok (.aaload, 1) := by decide +kernel
theorem dX8_minds_51 : decode cX8_minds 51 = .ok (.astore 5, 2) := by decide +kernel
theorem dX8_minds_53 : decode cX8_minds 53 = .ok (.aload 5, 2) := by decide +kernel
theorem dX8_minds_55 : decode cX8_minds 55 = .ok (.ifnonnull 6, 3) := by decide +kernel
theorem dX8_minds_58 : decode cX8_minds 58 = .ok (.bipush (-11), 2) := by decide +kernel
theorem dX8_minds_60 : decode cX8_minds 60 = .ok (.ireturn, 1) := by decide +kernel
theorem dX8_minds_61 : decode cX8_minds 61 = .ok (.aload 5, 2) := by decide +kernel
theorem dX8_minds_63 : decode cX8_minds 63 = .ok (.getfield 278, 3) := by decide +kernel
theorem dX8_minds_66 : decode cX8_minds 66 = .ok (.ifCond .eq 6, 3) := by decide +kernel
theorem dX8_minds_69 : decode cX8_minds 69 = .ok (.bipush (-13), 2) := by decide +kernel
theorem dX8_minds_71 : decode cX8_minds 71 = .ok (.ireturn, 1) := by decide +kernel
theorem dX8_minds_72 : decode cX8_minds 72 = .ok (.iload_n 2, 1) := by decide +kernel
theorem dX8_minds_73 : decode cX8_minds 73 = .ok (.iconst 0, 1) := by decide +kernel
theorem dX8_minds_74 : decode cX8_minds 74 = .ok (.aload 5, 2) := by decide +kernel
theorem dX8_minds_76 : decode cX8_minds 76 = .ok (.getfield 281, 3) := by decide +kernel
theorem dX8_minds_79 : decode cX8_minds 79 = .ok (.arraylength, 1) := by decide +kernel
theorem dX8_minds_80 : decode cX8_minds 80 = .ok (.invokestatic 83, 3) := by decide +kernel
theorem dX8_minds_83 : decode cX8_minds 83 = .ok (.ifCond .eq 16, 3) := by decide +kernel
theorem dX8_minds_86 : decode cX8_minds 86 = .ok (.iload 4, 2) := by decide +kernel
theorem dX8_minds_88 : decode cX8_minds 88 = .ok (.aload 5, 2) := by decide +kernel
theorem dX8_minds_90 : decode cX8_minds 90 = .ok (.getfield 281, 3) := by decide +kernel
theorem dX8_minds_93 : decode cX8_minds 93 = .ok (.arraylength, 1) := by decide +kernel
theorem dX8_minds_94 : decode cX8_minds 94 = .ok (.iload_n 2, 1) := by decide +kernel
theorem dX8_minds_95 : decode cX8_minds 95 = .ok (.isub, 1) := by decide +kernel
theorem dX8_minds_96 : decode cX8_minds 96 = .ok (.if_icmp .le 6, 3) := by decide +kernel
theorem dX8_minds_99 : decode cX8_minds 99 = .ok (.bipush (-12), 2) := by decide +kernel
theorem dX8_minds_101 : decode cX8_minds 101 = .ok (.ireturn, 1) := by decide +kernel
theorem dX8_minds_102 : decode cX8_minds 102 = .ok (.iconst 0, 1) := by decide +kernel
theorem dX8_minds_103 : decode cX8_minds 103 = .ok (.istore 6, 2) := by decide +kernel
theorem dX8_minds_105 : decode cX8_minds 105 = .ok (.iload 6, 2) := by decide +kernel
theorem dX8_minds_107 : decode cX8_minds 107 = .ok (.iload 4, 2) := by decide +kernel
theorem dX8_minds_109 : decode cX8_minds 109 = .ok (.if_icmp .ge 45, 3) := by decide +kernel
theorem dX8_minds_112 : decode cX8_minds 112 = .ok (.aload 5, 2) := by decide +kernel
theorem dX8_minds_114 : decode cX8_minds 114 = .ok (.getfield 281, 3) := by decide +kernel
theorem dX8_minds_117 : decode cX8_minds 117 = .ok (.iload_n 2, 1) := by decide +kernel
theorem dX8_minds_118 : decode cX8_minds 118 = .ok (.iload 6, 2) := by decide +kernel
theorem dX8_minds_120 : decode cX8_minds 120 = .ok (.iadd, 1) := by decide +kernel
theorem dX8_minds_121 : decode cX8_minds 121 = .ok (.laload, 1) := by decide +kernel
theorem dX8_minds_122 : decode cX8_minds 122 = .ok (.l2i, 1) := by decide +kernel
theorem dX8_minds_123 : decode cX8_minds 123 = .ok (.istore 7, 2) := by decide +kernel
theorem dX8_minds_125 : decode cX8_minds 125 = .ok (.aload_n 0, 1) := by decide +kernel
theorem dX8_minds_126 : decode cX8_minds 126 = .ok (.getfield 10, 3) := by decide +kernel
theorem dX8_minds_129 : decode cX8_minds 129 = .ok (.getfield 142, 3) := by decide +kernel
theorem dX8_minds_132 : decode cX8_minds 132 = .ok (.iload_n 3, 1) := by decide +kernel
theorem dX8_minds_133 : decode cX8_minds 133 = .ok (.iload 6, 2) := by decide +kernel
theorem dX8_minds_135 : decode cX8_minds 135 = .ok (.iadd, 1) := by decide +kernel
theorem dX8_minds_136 : decode cX8_minds 136 = .ok (.iconst 0, 1) := by decide +kernel
theorem dX8_minds_137 : decode cX8_minds 137 = .ok (.bipush 99, 2) := by decide +kernel
theorem dX8_minds_139 : decode cX8_minds 139 = .ok (.iload 7, 2) := by decide +kernel
theorem dX8_minds_141 : decode cX8_minds 141 = .ok (.invokestatic 175, 3) := by decide +kernel
theorem dX8_minds_144 : decode cX8_minds 144 = .ok (.invokestatic 285, 3) := by decide +kernel
theorem dX8_minds_147 : decode cX8_minds 147 = .ok (.iastore, 1) := by decide +kernel
theorem dX8_minds_148 : decode cX8_minds 148 = .ok (.iinc 6 1, 3) := by decide +kernel
theorem dX8_minds_151 : decode cX8_minds 151 = .ok (.goto (-46), 3) := by decide +kernel
theorem dX8_minds_154 : decode cX8_minds 154 = .ok (.iload 4, 2) := by decide +kernel
theorem dX8_minds_156 : decode cX8_minds 156 = .ok (.ireturn, 1) := by decide +kernel
set_option maxRecDepth 20000 in
theorem ggX8_sheet_X8_isSheet : GoodIn wsX8_sheet wsX8_isSheet := goodIn_r _ [8, 9, 10, 7, 11] (by decide +kernel) (by decide +kernel)
set_option maxRecDepth 20000 in
theorem gX8_sheet_X8_isSheet : GoodIn wsX8_sheet (va_wsS RX8 237 yX8_isSheet wsX8_isSheet) := goodIn_app (goodIn_of _ (by decide +kernel)) ggX8_sheet_X8_isSheet
set_option maxRecDepth 20000 in
theorem ggX8_sheet_X8_within : GoodIn wsX8_sheet wsX8_within := goodIn_r _ [11] (by decide +kernel) (by decide +kernel)
set_option maxRecDepth 20000 in
theorem gX8_sheet_X8_within : GoodIn wsX8_sheet (va_wsS RX8 83 yX8_within wsX8_within) := goodIn_app (goodIn_of _ (by decide +kernel)) ggX8_sheet_X8_within
set_option maxRecDepth 20000 in
theorem ggX8_sheet_X3_init : GoodIn wsX8_sheet wsX3_init := goodIn_r _ [14, 15, 16, 17, 18, 19, 20, 21, 22, 23, 24, 25, 26, 27, 41, 42] (by decide +kernel) (by decide +kernel)
set_option maxRecDepth 20000 in
theorem gX8_sheet_X3_init : GoodIn wsX8_sheet (wsX3_init) := ggX8_sheet_X3_init
theorem dX8_sheet_0 : decode cX8_sheet 0 = .ok (.iload_n 1, 1) := by decide +kernel
theorem dX8_sheet_1 : decode cX8_sheet 1 = .ok (.invokestatic 237, 3) := by decide +kernel
theorem dX8_sheet_4 : decode cX8_sheet 4 = .ok (.ifCond .eq 12, 3) := by decide +kernel
theorem dX8_sheet_7 : decode cX8_sheet 7 = .ok (.iload_n 2, 1) := by decide +kernel
theorem dX8_sheet_8 : decode cX8_sheet 8 = .ok (.iconst (-1), 1) := by decide +kernel
theorem dX8_sheet_9 : decode cX8_sheet 9 = .ok (.iconst 3, 1) := by decide +kernel
theorem dX8_sheet_10 : decode cX8_sheet 10 = .ok (.invokestatic 83, 3) := by decide +kernel
theorem dX8_sheet_13 : decode cX8_sheet 13 = .ok (.ifCond .ne 5, 3) := by decide +kernel
theorem dX8_sheet_16 : decode cX8_sheet 16 = .ok (.iconst (-1), 1) := by decide +kernel
theorem dX8_sheet_17 : decode cX8_sheet 17 = .ok (.ireturn, 1) := by decide +kernel
theorem dX8_sheet_18 : decode cX8_sheet 18 = .ok (.iload_n 2, 1) := by decide +kernel
theorem dX8_sheet_19 : decode cX8_sheet 19 = .ok (.iconst (-1), 1) := by decide +kernel
theorem dX8_sheet_20 : decode cX8_sheet 20 = .ok (.if_icmp .ne 12, 3) := by decide +kernel
theorem dX8_sheet_23 : decode cX8_sheet 23 = .ok (.aload_n 0, 1) := by decide +kernel
theorem dX8_sheet_24 : decode cX8_sheet 24 = .ok (.getfield 72, 3) := by decide +kernel
theorem dX8_sheet_27 : decode cX8_sheet 27 = .ok (.iload_n 1, 1) := by decide +kernel
theorem dX8_sheet_28 : decode cX8_sheet 28 = .ok (.aconst_null, 1) := by decide +kernel
theorem dX8_sheet_29 : decode cX8_sheet 29 = .ok (.aastore, 1) := by decide +kernel
theorem dX8_sheet_30 : decode cX8_sheet 30 = .ok (.iconst 1, 1) := by decide +kernel
theorem dX8_sheet_31 : decode cX8_sheet 31 = .ok (.ireturn, 1) := by decide +kernel
theorem dX8_sheet_32 : decode cX8_sheet 32 = .ok (.iload_n 3, 1) := by decide +kernel
theorem dX8_sheet_33 : decode cX8_sheet 33 = .ok (.bipush 40, 2) := by decide +kernel
theorem dX8_sheet_35 : decode cX8_sheet 35 = .ok (.if_icmp .le 5, 3) := by decide +kernel
theorem dX8_sheet_38 : decode cX8_sheet 38 = .ok (.iconst (-1), 1) := by decide +kernel
theorem dX8_sheet_39 : decode cX8_sheet 39 = .ok (.ireturn, 1) := by decide +kernel
theorem dX8_sheet_40 : decode cX8_sheet 40 = .ok (.iload_n 3, 1) := by decide +kernel
theorem dX8_sheet_41 : decode cX8_sheet 41 = .ok (.ifCond .ge 6, 3) := by decide +kernel
theorem dX8_sheet_44 : decode cX8_sheet 44 = .ok (.bipush (-14), 2) := by decide +kernel
theorem dX8_sheet_46 : decode cX8_sheet 46 = .ok (.ireturn, 1) := by decide +kernel
theorem dX8_sheet_47 : decode cX8_sheet 47 = .ok (.aload_n 0, 1) := by decide +kernel
theorem dX8_sheet_48 : decode cX8_sheet 48 = .ok (.getfield 72, 3) := by decide +kernel
theorem dX8_sheet_51 : decode cX8_sheet 51 = .ok (.iload_n 1, 1) := by decide +kernel
theorem dX8_sheet_52 : decode cX8_sheet 52 = .ok (.new 70, 3) := by decide +kernel
theorem dX8_sheet_55 : decode cX8_sheet 55 = .ok (.dup, 1) := by decide +kernel
theorem dX8_sheet_56 : decode cX8_sheet 56 = .ok (.iload_n 2, 1) := by decide +kernel
theorem dX8_sheet_57 : decode cX8_sheet 57 = .ok (.iload_n 3, 1) := by decide +kernel
theorem dX8_sheet_58 : decode cX8_sheet 58 = .ok (.invokespecial 288, 3) := by decide +kernel
theorem dX8_sheet_61 : decode cX8_sheet 61 = .ok (.aastore, 1) := by decide +kernel
theorem dX8_sheet_62 : decode cX8_sheet 62 = .ok (.iconst 1, 1) := by decide +kernel
theorem dX8_sheet_63 : decode cX8_sheet 63 = .ok (.ireturn, 1) := by decide +kernel
set_option maxRecDepth 20000 in
theorem ggX8_put_X8_isSheet : GoodIn wsX8_put wsX8_isSheet := goodIn_r _ [6, 7, 8, 5, 9] (by decide +kernel) (by decide +kernel)
set_option maxRecDepth 20000 in
theorem gX8_put_X8_isSheet : GoodIn wsX8_put (va_wsS RX8 237 yX8_isSheet wsX8_isSheet) := goodIn_app (goodIn_of _ (by decide +kernel)) ggX8_put_X8_isSheet
set_option maxRecDepth 20000 in
theorem ggX8_put_X3_has : GoodIn wsX8_put wsX3_has := goodIn_r _ [14, 15, 34, 35] (by decide +kernel) (by decide +kernel)
set_option maxRecDepth 20000 in
theorem gX8_put_X3_has : GoodIn wsX8_put (wsV RX8 290 RX3 yX3_has wsX3_has) := goodIn_app (goodIn_of _ (by decide +kernel)) ggX8_put_X3_has
set_option maxRecDepth 20000 in
theorem ggX8_put_X3_narrowed : GoodIn wsX8_put wsX3_narrowed := goodIn_r _ [19, 20, 34, 35] (by decide +kernel) (by decide +kernel)
set_option maxRecDepth 20000 in
theorem gX8_put_X3_narrowed : GoodIn wsX8_put (wsV RX8 291 RX3 yX3_narrowed wsX3_narrowed) := goodIn_app (goodIn_of _ (by decide +kernel)) ggX8_put_X3_narrowed
theorem dX8_put_0 : decode cX8_put 0 = .ok (.iload_n 1, 1) := by decide +kernel
theorem dX8_put_1 : decode cX8_put 1 = .ok (.invokestatic 237, 3) := by decide +kernel
theorem dX8_put_4 : decode cX8_put 4 = .ok (.ifCond .ne 5, 3) := by decide +kernel
theorem dX8_put_7 : decode cX8_put 7 = .ok (.iconst (-1), 1) := by decide +kernel
theorem dX8_put_8 : decode cX8_put 8 = .ok (.ireturn, 1) := by decide +kernel
theorem dX8_put_9 : decode cX8_put 9 = .ok (.aload_n 0, 1) := by decide +kernel
theorem dX8_put_10 : decode cX8_put 10 = .ok (.getfield 72, 3) := by decide +kernel
theorem dX8_put_13 : decode cX8_put 13 = .ok (.iload_n 1, 1) := by decide +kernel
theorem dX8_put_14 : decode cX8_put 14 = .ok (.aaload, 1) := by decide +kernel
theorem dX8_put_15 : decode cX8_put 15 = .ok (.astore 4, 2) := by decide +kernel
theorem dX8_put_17 : decode cX8_put 17 = .ok (.aload 4, 2) := by decide +kernel
theorem dX8_put_19 : decode cX8_put 19 = .ok (.ifnonnull 6, 3) := by decide +kernel
theorem dX8_put_22 : decode cX8_put 22 = .ok (.bipush (-11), 2) := by decide +kernel
theorem dX8_put_24 : decode cX8_put 24 = .ok (.ireturn, 1) := by decide +kernel
theorem dX8_put_25 : decode cX8_put 25 = .ok (.aload 4, 2) := by decide +kernel
theorem dX8_put_27 : decode cX8_put 27 = .ok (.iload_n 2, 1) := by decide +kernel
theorem dX8_put_28 : decode cX8_put 28 = .ok (.invokevirtual 290, 3) := by decide +kernel
theorem dX8_put_31 : decode cX8_put 31 = .ok (.ifCond .ne 6, 3) := by decide +kernel
theorem dX8_put_34 : decode cX8_put 34 = .ok (.bipush (-12), 2) := by decide +kernel
theorem dX8_put_36 : decode cX8_put 36 = .ok (.ireturn, 1) := by decide +kernel
theorem dX8_put_37 : decode cX8_put 37 = .ok (.aload 4, 2) := by decide +kernel
theorem dX8_put_39 : decode cX8_put 39 = .ok (.getfield 281, 3) := by decide +kernel
theorem dX8_put_42 : decode cX8_put 42 = .ok (.iload_n 2, 1) := by decide +kernel
theorem dX8_put_43 : decode cX8_put 43 = .ok (.aload 4, 2) := by decide +kernel
theorem dX8_put_45 : decode cX8_put 45 = .ok (.iload_n 3, 1) := by decide +kernel
theorem dX8_put_46 : decode cX8_put 46 = .ok (.invokevirtual 291, 3) := by decide +kernel
theorem dX8_put_49 : decode cX8_put 49 = .ok (.lastore, 1) := by decide +kernel
theorem dX8_put_50 : decode cX8_put 50 = .ok (.iconst 1, 1) := by decide +kernel
theorem dX8_put_51 : decode cX8_put 51 = .ok (.ireturn, 1) := by decide +kernel
set_option maxRecDepth 20000 in
theorem ggX8_item_X8_isSheet : GoodIn wsX8_item wsX8_isSheet := goodIn_r _ [7, 8, 9, 6, 10] (by decide +kernel) (by decide +kernel)
set_option maxRecDepth 20000 in
theorem gX8_item_X8_isSheet : GoodIn wsX8_item (va_wsS RX8 237 yX8_isSheet wsX8_isSheet) := goodIn_app (goodIn_of _ (by decide +kernel)) ggX8_item_X8_isSheet
set_option maxRecDepth 20000 in
theorem ggX8_item_X8_within : GoodIn wsX8_item wsX8_within := goodIn_r _ [10] (by decide +kernel) (by decide +kernel)
set_option maxRecDepth 20000 in
theorem gX8_item_X8_within : GoodIn wsX8_item (va_wsS RX8 83 yX8_within wsX8_within) := goodIn_app (goodIn_of _ (by decide +kernel)) ggX8_item_X8_within
set_option maxRecDepth 20000 in
theorem ggX8_item_X3_has : GoodIn wsX8_item wsX3_has := goodIn_r _ [15, 16, 30, 31] (by decide +kernel) (by decide +kernel)
set_option maxRecDepth 20000 in
theorem gX8_item_X3_has : GoodIn wsX8_item (wsV RX8 290 RX3 yX3_has wsX3_has) := goodIn_app (goodIn_of _ (by decide +kernel)) ggX8_item_X3_has
theorem dX8_item_0 : decode cX8_item 0 = .ok (.iload_n 1, 1) := by decide +kernel
theorem dX8_item_1 : decode cX8_item 1 = .ok (.invokestatic 237, 3) := by decide +kernel
theorem dX8_item_4 : decode cX8_item 4 = .ok (.ifCond .eq 12, 3) := by decide +kernel
theorem dX8_item_7 : decode cX8_item 7 = .ok (.iload_n 2, 1) := by decide +kernel
theorem dX8_item_8 : decode cX8_item 8 = .ok (.iconst 0, 1) := by decide +kernel
theorem dX8_item_9 : decode cX8_item 9 = .ok (.iconst 3, 1) := by decide +kernel
theorem dX8_item_10 : decode cX8_item 10 = .ok (.invokestatic 83, 3) := by decide +kernel
theorem dX8_item_13 : decode cX8_item 13 = .ok (.ifCond .ne 5, 3) := by decide +kernel
theorem dX8_item_16 : decode cX8_item 16 = .ok (.iconst (-1), 1) := by decide +kernel
theorem dX8_item_17 : decode cX8_item 17 = .ok (.ireturn, 1) := by decide +kernel
theorem dX8_item_18 : decode cX8_item 18 = .ok (.aload_n 0, 1) := by decide +kernel
theorem dX8_item_19 : decode cX8_item 19 = .ok (.getfield 72, 3) := by decide +kernel
theorem dX8_item_22 : decode cX8_item 22 = .ok (.iload_n 1, 1) := by decide +kernel
theorem dX8_item_23 : decode cX8_item 23 = .ok (.aaload, 1) := by decide +kernel
theorem dX8_item_24 : decode cX8_item 24 = .ok (.astore 4, 2) := by decide +kernel
theorem dX8_item_26 : decode cX8_item 26 = .ok (.aload 4, 2) := by decide +kernel
theorem dX8_item_28 : decode cX8_item 28 = .ok (.ifnonnull 6, 3) := by decide +kernel
theorem dX8_item_31 : decode cX8_item 31 = .ok (.bipush (-11), 2) := by decide +kernel
theorem dX8_item_33 : decode cX8_item 33 = .ok (.ireturn, 1) := by decide +kernel
theorem dX8_item_34 : decode cX8_item 34 = .ok (.aload 4, 2) := by decide +kernel
theorem dX8_item_36 : decode cX8_item 36 = .ok (.getfield 278, 3) := by decide +kernel
theorem dX8_item_39 : decode cX8_item 39 = .ok (.iload_n 2, 1) := by decide +kernel
theorem dX8_item_40 : decode cX8_item 40 = .ok (.if_icmp .eq 6, 3) := by decide +kernel
theorem dX8_item_43 : decode cX8_item 43 = .ok (.bipush (-13), 2) := by decide +kernel
theorem dX8_item_45 : decode cX8_item 45 = .ok (.ireturn, 1) := by decide +kernel
theorem dX8_item_46 : decode cX8_item 46 = .ok (.aload 4, 2) := by decide +kernel
theorem dX8_item_48 : decode cX8_item 48 = .ok (.iload_n 3, 1) := by decide +kernel
theorem dX8_item_49 : decode cX8_item 49 = .ok (.invokevirtual 290, 3) := by decide +kernel
theorem dX8_item_52 : decode cX8_item 52 = .ok (.ifCond .eq 14, 3) := by decide +kernel
theorem dX8_item_55 : decode cX8_item 55 = .ok (.aload 4, 2) := by decide +kernel
theorem dX8_item_57 : decode cX8_item 57 = .ok (.getfield 281, 3) := by decide +kernel
theorem dX8_item_60 : decode cX8_item 60 = .ok (.iload_n 3, 1) := by decide +kernel
theorem dX8_item_61 : decode cX8_item 61 = .ok (.laload, 1) := by decide +kernel
theorem dX8_item_62 : decode cX8_item 62 = .ok (.l2i, 1) := by decide +kernel
theorem dX8_item_63 : decode cX8_item 63 = .ok (.goto 5, 3) := by decide +kernel
theorem dX8_item_66 : decode cX8_item 66 = .ok (.bipush (-12), 2) := by decide +kernel
theorem dX8_item_68 : decode cX8_item 68 = .ok (.ireturn, 1) := by decide +kernel
set_option maxRecDepth 20000 in
theorem ggX8_shelf_X8_isShelf : GoodIn wsX8_shelf wsX8_isShelf := goodIn_r _ [6, 7, 8, 5, 9] (by decide +kernel) (by decide +kernel)
set_option maxRecDepth 20000 in
theorem gX8_shelf_X8_isShelf : GoodIn wsX8_shelf (va_wsS RX8 295 yX8_isShelf wsX8_isShelf) := goodIn_app (goodIn_of _ (by decide +kernel)) ggX8_shelf_X8_isShelf
set_option maxRecDepth 20000 in
theorem ggX8_shelf_X6_has : GoodIn wsX8_shelf wsX6_has := goodIn_r _ [14, 15, 38, 39, 40, 41, 42, 43, 44, 45, 46, 47, 48, 49] (by decide +kernel) (by decide +kernel)
set_option maxRecDepth 20000 in
theorem gX8_shelf_X6_has : GoodIn wsX8_shelf (wsV RX8 136 RX6 yX6_has wsX6_has) := goodIn_app (goodIn_of _ (by decide +kernel)) ggX8_shelf_X6_has
set_option maxRecDepth 20000 in
theorem ggX8_shelf_X8_placeOnShelf : GoodIn wsX8_shelf wsX8_placeOnShelf := goodIn_r _ [19, 20, 21, 25, 26, 27, 28, 29, 30, 31, 32, 33, 34, 35, 36, 37] (by decide +kernel) (by decide +kernel)
set_option maxRecDepth 20000 in
theorem gX8_shelf_X8_placeOnShelf : GoodIn wsX8_shelf (wsV RX8 298 RX8 yX8_placeOnShelf wsX8_placeOnShelf) := goodIn_app (goodIn_of _ (by decide +kernel)) ggX8_shelf_X8_placeOnShelf
set_option maxRecDepth 20000 in
theorem ggX8_shelf_X8_isSheet : GoodIn wsX8_shelf wsX8_isSheet := goodIn_r _ [24, 7, 8, 5, 9] (by decide +kernel) (by decide +kernel)
set_option maxRecDepth 20000 in
theorem gX8_shelf_X8_isSheet : GoodIn wsX8_shelf (va_wsS RX8 237 yX8_isSheet wsX8_isSheet) := goodIn_app (goodIn_of _ (by decide +kernel)) ggX8_shelf_X8_isSheet
theorem dX8_shelf_0 : decode cX8_shelf 0 = .ok (.iload_n 1, 1) := by decide +kernel
theorem dX8_shelf_1 : decode cX8_shelf 1 = .ok (.invokestatic 295, 3) := by decide +kernel
theorem dX8_shelf_4 : decode cX8_shelf 4 = .ok (.ifCond .ne 5, 3) := by decide +kernel
theorem dX8_shelf_7 : decode cX8_shelf 7 = .ok (.iconst (-1), 1) := by decide +kernel
theorem dX8_shelf_8 : decode cX8_shelf 8 = .ok (.ireturn, 1) := by decide +kernel
theorem dX8_shelf_9 : decode cX8_shelf 9 = .ok (.iload_n 2, 1) := by decide +kernel
theorem dX8_shelf_10 : decode cX8_shelf 10 = .ok (.ifCond .ne 23, 3) := by decide +kernel
theorem dX8_shelf_13 : decode cX8_shelf 13 = .ok (.aload_n 0, 1) := by decide +kernel
theorem dX8_shelf_14 : decode cX8_shelf 14 = .ok (.getfield 10, 3) := by decide +kernel
theorem dX8_shelf_17 : decode cX8_shelf 17 = .ok (.iload_n 3, 1) := by decide +kernel
theorem dX8_shelf_18 : decode cX8_shelf 18 = .ok (.invokevirtual 136, 3) := by decide +kernel
theorem dX8_shelf_21 : decode cX8_shelf 21 = .ok (.ifCond .eq 12, 3) := by decide +kernel
theorem dX8_shelf_24 : decode cX8_shelf 24 = .ok (.aload_n 0, 1) := by decide +kernel
theorem dX8_shelf_25 : decode cX8_shelf 25 = .ok (.iload_n 1, 1) := by decide +kernel
theorem dX8_shelf_26 : decode cX8_shelf 26 = .ok (.iload_n 3, 1) := by decide +kernel
theorem dX8_shelf_27 : decode cX8_shelf 27 = .ok (.aconst_null, 1) := by decide +kernel
theorem dX8_shelf_28 : decode cX8_shelf 28 = .ok (.invokevirtual 298, 3) := by decide +kernel
theorem dX8_shelf_31 : decode cX8_shelf 31 = .ok (.iconst 1, 1) := by decide +kernel
theorem dX8_shelf_32 : decode cX8_shelf 32 = .ok (.ireturn, 1) := by decide +kernel
theorem dX8_shelf_33 : decode cX8_shelf 33 = .ok (.iload_n 2, 1) := by decide +kernel
theorem dX8_shelf_34 : decode cX8_shelf 34 = .ok (.iconst 1, 1) := by decide +kernel
theorem dX8_shelf_35 : decode cX8_shelf 35 = .ok (.if_icmp .ne 24, 3) := by decide +kernel
theorem dX8_shelf_38 : decode cX8_shelf 38 = .ok (.iload_n 3, 1) := by decide +kernel
theorem dX8_shelf_39 : decode cX8_shelf 39 = .ok (.invokestatic 237, 3) := by decide +kernel
theorem dX8_shelf_42 : decode cX8_shelf 42 = .ok (.ifCond .eq 17, 3) := by decide +kernel
theorem dX8_shelf_45 : decode cX8_shelf 45 = .ok (.aload_n 0, 1) := by decide +kernel
theorem dX8_shelf_46 : decode cX8_shelf 46 = .ok (.iload_n 1, 1) := by decide +kernel
theorem dX8_shelf_47 : decode cX8_shelf 47 = .ok (.iconst (-1), 1) := by decide +kernel
theorem dX8_shelf_48 : decode cX8_shelf 48 = .ok (.aload_n 0, 1) := by decide +kernel
theorem dX8_shelf_49 : decode cX8_shelf 49 = .ok (.getfield 72, 3) := by decide +kernel
theorem dX8_shelf_52 : decode cX8_shelf 52 = .ok (.iload_n 3, 1) := by decide +kernel
theorem dX8_shelf_53 : decode cX8_shelf 53 = .ok (.aaload, 1) := by decide +kernel
theorem dX8_shelf_54 : decode cX8_shelf 54 = .ok (.invokevirtual 298, 3) := by decide +kernel
theorem dX8_shelf_57 : decode cX8_shelf 57 = .ok (.iconst 1, 1) := by decide +kernel
theorem dX8_shelf_58 : decode cX8_shelf 58 = .ok (.ireturn, 1) := by decide +kernel
theorem dX8_shelf_59 : decode cX8_shelf 59 = .ok (.iload_n 2, 1) := by decide +kernel
theorem dX8_shelf_60 : decode cX8_shelf 60 = .ok (.iconst 2, 1) := by decide +kernel
theorem dX8_shelf_61 : decode cX8_shelf 61 = .ok (.if_icmp .ne 12, 3) := by decide +kernel
theorem dX8_shelf_64 : decode cX8_shelf 64 = .ok (.aload_n 0, 1) := by decide +kernel
theorem dX8_shelf_65 : decode cX8_shelf 65 = .ok (.iload_n 1, 1) := by decide +kernel
theorem dX8_shelf_66 : decode cX8_shelf 66 = .ok (.iconst (-1), 1) := by decide +kernel
theorem dX8_shelf_67 : decode cX8_shelf 67 = .ok (.aconst_null, 1) := by decide +kernel
theorem dX8_shelf_68 : decode cX8_shelf 68 = .ok (.invokevirtual 298, 3) := by decide +kernel
theorem dX8_shelf_71 : decode cX8_shelf 71 = .ok (.iconst 1, 1) := by decide +kernel
theorem dX8_shelf_72 : decode cX8_shelf 72 = .ok (.ireturn, 1) := by decide +kernel
theorem dX8_shelf_73 : decode cX8_shelf 73 = .ok (.iconst (-1), 1) := by decide +kernel
theorem dX8_shelf_74 : decode cX8_shelf 74 = .ok (.ireturn, 1) := by decide +kernel
set_option maxRecDepth 20000 in
theorem ggX8_taken_X8_within : GoodIn wsX8_taken wsX8_within := goodIn_r _ [10] (by decide +kernel) (by decide +kernel)
set_option maxRecDepth 20000 in
theorem gX8_taken_X8_within : GoodIn wsX8_taken (va_wsS RX8 83 yX8_within wsX8_within) := goodIn_app (goodIn_of _ (by decide +kernel)) ggX8_taken_X8_within
set_option maxRecDepth 20000 in
theorem ggX8_taken_X8_isShelf : GoodIn wsX8_taken wsX8_isShelf := goodIn_r _ [13, 7, 8, 9, 10] (by decide +kernel) (by decide +kernel)
set_option maxRecDepth 20000 in
theorem gX8_taken_X8_isShelf : GoodIn wsX8_taken (va_wsS RX8 295 yX8_isShelf wsX8_isShelf) := goodIn_app (goodIn_of _ (by decide +kernel)) ggX8_taken_X8_isShelf
set_option maxRecDepth 20000 in
theorem ggX8_taken_X8_isKind : GoodIn wsX8_taken wsX8_isKind := goodIn_r _ [16, 7, 8, 9, 10] (by decide +kernel) (by decide +kernel)
set_option maxRecDepth 20000 in
theorem gX8_taken_X8_isKind : GoodIn wsX8_taken (va_wsS RX8 126 yX8_isKind wsX8_isKind) := goodIn_app (goodIn_of _ (by decide +kernel)) ggX8_taken_X8_isKind
set_option maxRecDepth 20000 in
theorem ggX8_taken_X6_has : GoodIn wsX8_taken wsX6_has := goodIn_r _ [21, 22, 41, 42, 43, 44, 45, 46, 47, 48, 49, 50, 51, 52] (by decide +kernel) (by decide +kernel)
set_option maxRecDepth 20000 in
theorem gX8_taken_X6_has : GoodIn wsX8_taken (wsV RX8 136 RX6 yX6_has wsX6_has) := goodIn_app (goodIn_of _ (by decide +kernel)) ggX8_taken_X6_has
set_option maxRecDepth 20000 in
theorem ggX8_taken_X8_isUnder : GoodIn wsX8_taken wsX8_isUnder := goodIn_r _ [25] (by decide +kernel) (by decide +kernel)
set_option maxRecDepth 20000 in
theorem gX8_taken_X8_isUnder : GoodIn wsX8_taken (va_wsS RX8 302 yX8_isUnder wsX8_isUnder) := goodIn_app (goodIn_of _ (by decide +kernel)) ggX8_taken_X8_isUnder
theorem dX8_taken_0 : decode cX8_taken 0 = .ok (.iload_n 2, 1) := by decide +kernel
theorem dX8_taken_1 : decode cX8_taken 1 = .ok (.bipush 10, 2) := by decide +kernel
theorem dX8_taken_3 : decode cX8_taken 3 = .ok (.bipush 13, 2) := by decide +kernel
theorem dX8_taken_5 : decode cX8_taken 5 = .ok (.invokestatic 83, 3) := by decide +kernel
theorem dX8_taken_8 : decode cX8_taken 8 = .ok (.istore_n 3, 1) := by decide +kernel
theorem dX8_taken_9 : decode cX8_taken 9 = .ok (.iload_n 1, 1) := by decide +kernel
theorem dX8_taken_10 : decode cX8_taken 10 = .ok (.invokestatic 295, 3) := by decide +kernel
theorem dX8_taken_13 : decode cX8_taken 13 = .ok (.ifCond .eq 14, 3) := by decide +kernel
theorem dX8_taken_16 : decode cX8_taken 16 = .ok (.iload_n 2, 1) := by decide +kernel
theorem dX8_taken_17 : decode cX8_taken 17 = .ok (.invokestatic 126, 3) := by decide +kernel
theorem dX8_taken_20 : decode cX8_taken 20 = .ok (.ifCond .ne 9, 3) := by decide +kernel
theorem dX8_taken_23 : decode cX8_taken 23 = .ok (.iload_n 3, 1) := by decide +kernel
theorem dX8_taken_24 : decode cX8_taken 24 = .ok (.ifCond .ne 5, 3) := by decide +kernel
theorem dX8_taken_27 : decode cX8_taken 27 = .ok (.iconst (-1), 1) := by decide +kernel
theorem dX8_taken_28 : decode cX8_taken 28 = .ok (.ireturn, 1) := by decide +kernel
theorem dX8_taken_29 : decode cX8_taken 29 = .ok (.aload_n 0, 1) := by decide +kernel
theorem dX8_taken_30 : decode cX8_taken 30 = .ok (.getfield 80, 3) := by decide +kernel
theorem dX8_taken_33 : decode cX8_taken 33 = .ok (.iload_n 1, 1) := by decide +kernel
theorem dX8_taken_34 : decode cX8_taken 34 = .ok (.aaload, 1) := by decide +kernel
theorem dX8_taken_35 : decode cX8_taken 35 = .ok (.astore 4, 2) := by decide +kernel
theorem dX8_taken_37 : decode cX8_taken 37 = .ok (.aload 4, 2) := by decide +kernel
theorem dX8_taken_39 : decode cX8_taken 39 = .ok (.ifnull 27, 3) := by decide +kernel
theorem dX8_taken_42 : decode cX8_taken 42 = .ok (.aload 4, 2) := by decide +kernel
theorem dX8_taken_44 : decode cX8_taken 44 = .ok (.getfield 278, 3) := by decide +kernel
theorem dX8_taken_47 : decode cX8_taken 47 = .ok (.iload_n 2, 1) := by decide +kernel
theorem dX8_taken_48 : decode cX8_taken 48 = .ok (.bipush 10, 2) := by decide +kernel
theorem dX8_taken_50 : decode cX8_taken 50 = .ok (.isub, 1) := by decide +kernel
theorem dX8_taken_51 : decode cX8_taken 51 = .ok (.if_icmp .ne 12, 3) := by decide +kernel
theorem dX8_taken_54 : decode cX8_taken 54 = .ok (.aload 4, 2) := by decide +kernel
theorem dX8_taken_56 : decode cX8_taken 56 = .ok (.getfield 281, 3) := by decide +kernel
theorem dX8_taken_59 : decode cX8_taken 59 = .ok (.arraylength, 1) := by decide +kernel
theorem dX8_taken_60 : decode cX8_taken 60 = .ok (.goto 5, 3) := by decide +kernel
theorem dX8_taken_63 : decode cX8_taken 63 = .ok (.bipush (-13), 2) := by decide +kernel
theorem dX8_taken_65 : decode cX8_taken 65 = .ok (.ireturn, 1) := by decide +kernel
theorem dX8_taken_66 : decode cX8_taken 66 = .ok (.aload_n 0, 1) := by decide +kernel
theorem dX8_taken_67 : decode cX8_taken 67 = .ok (.getfield 76, 3) := by decide +kernel
theorem dX8_taken_70 : decode cX8_taken 70 = .ok (.iload_n 1, 1) := by decide +kernel
theorem dX8_taken_71 : decode cX8_taken 71 = .ok (.iaload, 1) := by decide +kernel
theorem dX8_taken_72 : decode cX8_taken 72 = .ok (.istore 5, 2) := by decide +kernel
theorem dX8_taken_74 : decode cX8_taken 74 = .ok (.aload_n 0, 1) := by decide +kernel
theorem dX8_taken_75 : decode cX8_taken 75 = .ok (.getfield 10, 3) := by decide +kernel
theorem dX8_taken_78 : decode cX8_taken 78 = .ok (.iload 5, 2) := by decide +kernel
theorem dX8_taken_80 : decode cX8_taken 80 = .ok (.invokevirtual 136, 3) := by decide +kernel
theorem dX8_taken_83 : decode cX8_taken 83 = .ok (.ifCond .ne 6, 3) := by decide +kernel
theorem dX8_taken_86 : decode cX8_taken 86 = .ok (.bipush (-11), 2) := by decide +kernel
theorem dX8_taken_88 : decode cX8_taken 88 = .ok (.ireturn, 1) := by decide +kernel
theorem dX8_taken_89 : decode cX8_taken 89 = .ok (.iload_n 2, 1) := by decide +kernel
theorem dX8_taken_90 : decode cX8_taken 90 = .ok (.invokestatic 126, 3) := by decide +kernel
theorem dX8_taken_93 : decode cX8_taken 93 = .ok (.ifCond .eq 25, 3) := by decide +kernel
theorem dX8_taken_96 : decode cX8_taken 96 = .ok (.aload_n 0, 1) := by decide +kernel
theorem dX8_taken_97 : decode cX8_taken 97 = .ok (.getfield 10, 3) := by decide +kernel
theorem dX8_taken_100 : decode cX8_taken 100 = .ok (.getfield 139, 3) := by decide +kernel
theorem dX8_taken_103 : decode cX8_taken 103 = .ok (.iload 5, 2) := by decide +kernel
theorem dX8_taken_105 : decode cX8_taken 105 = .ok (.iaload, 1) := by decide +kernel
theorem dX8_taken_106 : decode cX8_taken 106 = .ok (.iload_n 2, 1) := by decide +kernel
theorem dX8_taken_107 : decode cX8_taken 107 = .ok (.invokestatic 302, 3) := by decide +kernel
theorem dX8_taken_110 : decode cX8_taken 110 = .ok (.ifCond .eq 8, 3) := by decide +kernel
theorem dX8_taken_113 : decode cX8_taken 113 = .ok (.iload 5, 2) := by decide +kernel
theorem dX8_taken_115 : decode cX8_taken 115 = .ok (.goto 5, 3) := by decide +kernel
theorem dX8_taken_118 : decode cX8_taken 118 = .ok (.bipush (-13), 2) := by decide +kernel
theorem dX8_taken_120 : decode cX8_taken 120 = .ok (.ireturn, 1) := by decide +kernel
set_option maxRecDepth 20000 in
theorem ggX8_act_X1_forget : GoodIn wsX8_act wsX1_forget := goodIn_r _ [9, 10, 11, 76, 77, 78, 79, 80, 81] (by decide +kernel) (by decide +kernel)
set_option maxRecDepth 20000 in
theorem gX8_act_X1_forget : GoodIn wsX8_act (wsV RX8 305 RX1 yX1_forget wsX1_forget) := goodIn_app (goodIn_of _ (by decide +kernel)) ggX8_act_X1_forget
set_option maxRecDepth 20000 in
theorem ggX8_act_X8_isShelf : GoodIn wsX8_act wsX8_isShelf := goodIn_r _ [15, 16, 17, 14, 18] (by decide +kernel) (by decide +kernel)
set_option maxRecDepth 20000 in
theorem gX8_act_X8_isShelf : GoodIn wsX8_act (va_wsS RX8 295 yX8_isShelf wsX8_isShelf) := goodIn_app (goodIn_of _ (by decide +kernel)) ggX8_act_X8_isShelf
set_option maxRecDepth 20000 in
theorem ggX8_act_X8_within : GoodIn wsX8_act wsX8_within := goodIn_r _ [18] (by decide +kernel) (by decide +kernel)
set_option maxRecDepth 20000 in
theorem gX8_act_X8_within : GoodIn wsX8_act (va_wsS RX8 83 yX8_within wsX8_within) := goodIn_app (goodIn_of _ (by decide +kernel)) ggX8_act_X8_within
set_option maxRecDepth 20000 in
theorem ggX8_act_X6_has : GoodIn wsX8_act wsX6_has := goodIn_r _ [23, 24, 82, 83, 84, 85, 86, 87, 88, 89, 90, 91, 92, 93] (by decide +kernel) (by decide +kernel)
set_option maxRecDepth 20000 in
theorem gX8_act_X6_has : GoodIn wsX8_act (wsV RX8 136 RX6 yX6_has wsX6_has) := goodIn_app (goodIn_of _ (by decide +kernel)) ggX8_act_X6_has
set_option maxRecDepth 20000 in
theorem ggX8_act_X1_run : GoodIn wsX8_act wsX1_run := goodIn_r _ [28, 29, 30, 31, 32, 33, 34, 35, 36, 8, 37, 38, 39, 40, 41, 10, 42, 43, 44, 45, 46, 47, 48, 49, 50, 51, 52, 53, 54, 55, 56, 57, 58, 11, 59, 60, 61, 62, 82, 83, 84, 85, 86, 87, 88, 89, 90, 91, 92, 93, 76, 77, 78, 79, 80, 81] (by decide +kernel) (by decide +kernel)
set_option maxRecDepth 20000 in
theorem gX8_act_X1_run : GoodIn wsX8_act (wsV RX8 308 RX1 yX1_run wsX1_run) := goodIn_app (goodIn_of _ (by decide +kernel)) ggX8_act_X1_run
theorem dX8_act_0 : decode cX8_act 0 = .ok (.aload_n 0, 1) := by decide +kernel
theorem dX8_act_1 : decode cX8_act 1 = .ok (.getfield 66, 3) := by decide +kernel
theorem dX8_act_4 : decode cX8_act 4 = .ok (.invokevirtual 305, 3) := by decide +kernel
theorem dX8_act_7 : decode cX8_act 7 = .ok (.iload_n 1, 1) := by decide +kernel
theorem dX8_act_8 : decode cX8_act 8 = .ok (.invokestatic 295, 3) := by decide +kernel
theorem dX8_act_11 : decode cX8_act 11 = .ok (.ifCond .eq 12, 3) := by decide +kernel
theorem dX8_act_14 : decode cX8_act 14 = .ok (.iload_n 2, 1) := by decide +kernel
theorem dX8_act_15 : decode cX8_act 15 = .ok (.iconst 0, 1) := by decide +kernel
theorem dX8_act_16 : decode cX8_act 16 = .ok (.iconst 3, 1) := by decide +kernel
theorem dX8_act_17 : decode cX8_act 17 = .ok (.invokestatic 83, 3) := by decide +kernel
theorem dX8_act_20 : decode cX8_act 20 = .ok (.ifCond .ne 5, 3) := by decide +kernel
theorem dX8_act_23 : decode cX8_act 23 = .ok (.iconst 0, 1) := by decide +kernel
theorem dX8_act_24 : decode cX8_act 24 = .ok (.ireturn, 1) := by decide +kernel
theorem dX8_act_25 : decode cX8_act 25 = .ok (.aload_n 0, 1) := by decide +kernel
theorem dX8_act_26 : decode cX8_act 26 = .ok (.getfield 76, 3) := by decide +kernel
theorem dX8_act_29 : decode cX8_act 29 = .ok (.iload_n 1, 1) := by decide +kernel
theorem dX8_act_30 : decode cX8_act 30 = .ok (.iaload, 1) := by decide +kernel
theorem dX8_act_31 : decode cX8_act 31 = .ok (.istore 4, 2) := by decide +kernel
theorem dX8_act_33 : decode cX8_act 33 = .ok (.aload_n 0, 1) := by decide +kernel
theorem dX8_act_34 : decode cX8_act 34 = .ok (.getfield 10, 3) := by decide +kernel
theorem dX8_act_37 : decode cX8_act 37 = .ok (.iload 4, 2) := by decide +kernel
theorem dX8_act_39 : decode cX8_act 39 = .ok (.invokevirtual 136, 3) := by decide +kernel
theorem dX8_act_42 : decode cX8_act 42 = .ok (.ifCond .ne 5, 3) := by decide +kernel
theorem dX8_act_45 : decode cX8_act 45 = .ok (.iconst 0, 1) := by decide +kernel
theorem dX8_act_46 : decode cX8_act 46 = .ok (.ireturn, 1) := by decide +kernel
theorem dX8_act_47 : decode cX8_act 47 = .ok (.aload_n 0, 1) := by decide +kernel
theorem dX8_act_48 : decode cX8_act 48 = .ok (.getfield 66, 3) := by decide +kernel
theorem dX8_act_51 : decode cX8_act 51 = .ok (.aload_n 0, 1) := by decide +kernel
theorem dX8_act_52 : decode cX8_act 52 = .ok (.getfield 10, 3) := by decide +kernel
theorem dX8_act_55 : decode cX8_act 55 = .ok (.iload 4, 2) := by decide +kernel
theorem dX8_act_57 : decode cX8_act 57 = .ok (.iload_n 2, 1) := by decide +kernel
theorem dX8_act_58 : decode cX8_act 58 = .ok (.iload_n 3, 1) := by decide +kernel
theorem dX8_act_59 : decode cX8_act 59 = .ok (.invokevirtual 308, 3) := by decide +kernel
theorem dX8_act_62 : decode cX8_act 62 = .ok (.istore 5, 2) := by decide +kernel
theorem dX8_act_64 : decode cX8_act 64 = .ok (.aload_n 0, 1) := by decide +kernel
theorem dX8_act_65 : decode cX8_act 65 = .ok (.getfield 66, 3) := by decide +kernel
theorem dX8_act_68 : decode cX8_act 68 = .ok (.getfield 312, 3) := by decide +kernel
theorem dX8_act_71 : decode cX8_act 71 = .ok (.ifCond .eq 8, 3) := by decide +kernel
theorem dX8_act_74 : decode cX8_act 74 = .ok (.bipush (-15), 2) := by decide +kernel
theorem dX8_act_76 : decode cX8_act 76 = .ok (.goto 5, 3) := by decide +kernel
theorem dX8_act_79 : decode cX8_act 79 = .ok (.iload 5, 2) := by decide +kernel
theorem dX8_act_81 : decode cX8_act 81 = .ok (.ireturn, 1) := by decide +kernel
set_option maxRecDepth 20000 in
theorem ggX8_trace_X8_within : GoodIn wsX8_trace wsX8_within := goodIn_r _ [7] (by decide +kernel) (by decide +kernel)
set_option maxRecDepth 20000 in
theorem gX8_trace_X8_within : GoodIn wsX8_trace (va_wsS RX8 83 yX8_within wsX8_within) := goodIn_app (goodIn_of _ (by decide +kernel)) ggX8_trace_X8_within
theorem dX8_trace_0 : decode cX8_trace 0 = .ok (.iload_n 1, 1) := by decide +kernel
theorem dX8_trace_1 : decode cX8_trace 1 = .ok (.iconst 0, 1) := by decide +kernel
theorem dX8_trace_2 : decode cX8_trace 2 = .ok (.aload_n 0, 1) := by decide +kernel
theorem dX8_trace_3 : decode cX8_trace 3 = .ok (.getfield 66, 3) := by decide +kernel
theorem dX8_trace_6 : decode cX8_trace 6 = .ok (.getfield 316, 3) := by decide +kernel
theorem dX8_trace_9 : decode cX8_trace 9 = .ok (.iconst 1, 1) := by decide +kernel
theorem dX8_trace_10 : decode cX8_trace 10 = .ok (.isub, 1) := by decide +kernel
theorem dX8_trace_11 : decode cX8_trace 11 = .ok (.invokestatic 83, 3) := by decide +kernel
theorem dX8_trace_14 : decode cX8_trace 14 = .ok (.ifCond .eq 15, 3) := by decide +kernel
theorem dX8_trace_17 : decode cX8_trace 17 = .ok (.aload_n 0, 1) := by decide +kernel
theorem dX8_trace_18 : decode cX8_trace 18 = .ok (.getfield 66, 3) := by decide +kernel
theorem dX8_trace_21 : decode cX8_trace 21 = .ok (.getfield 319, 3) := by decide +kernel
theorem dX8_trace_24 : decode cX8_trace 24 = .ok (.iload_n 1, 1) := by decide +kernel
theorem dX8_trace_25 : decode cX8_trace 25 = .ok (.iaload, 1) := by decide +kernel
theorem dX8_trace_26 : decode cX8_trace 26 = .ok (.goto 5, 3) := by decide +kernel
theorem dX8_trace_29 : decode cX8_trace 29 = .ok (.bipush (-3), 2) := by decide +kernel
theorem dX8_trace_31 : decode cX8_trace 31 = .ok (.ireturn, 1) := by decide +kernel
set_option maxRecDepth 20000 in
theorem ggX8_many_X6_pairs : GoodIn wsX8_many wsX6_pairs := goodIn_r _ [13, 14, 15, 46, 47, 48, 49, 50, 51, 52, 53, 54, 55, 56, 57] (by decide +kernel) (by decide +kernel)
set_option maxRecDepth 20000 in
theorem gX8_many_X6_pairs : GoodIn wsX8_many (wsV RX8 322 RX6 yX6_pairs wsX6_pairs) := goodIn_app (goodIn_of _ (by decide +kernel)) ggX8_many_X6_pairs
set_option maxRecDepth 20000 in
theorem ggX8_many_X6_speakers : GoodIn wsX8_many wsX6_speakers := goodIn_r _ [19, 14, 20, 46, 47, 48, 49, 50, 51, 52, 53, 54, 55, 56, 57] (by decide +kernel) (by decide +kernel)
set_option maxRecDepth 20000 in
theorem gX8_many_X6_speakers : GoodIn wsX8_many (wsV RX8 206 RX6 yX6_speakers wsX6_speakers) := goodIn_app (goodIn_of _ (by decide +kernel)) ggX8_many_X6_speakers
set_option maxRecDepth 20000 in
theorem ggX8_many_J6_bitCount_0f7a4 : GoodIn wsX8_many wsJ6_bitCount_0f7a4 := goodIn_r _ [24, 25, 26, 27] (by decide +kernel) (by decide +kernel)
set_option maxRecDepth 20000 in
theorem gX8_many_J6_bitCount_0f7a4 : GoodIn wsX8_many (va_wsS RX8 325 yJ6_bitCount_0f7a4 wsJ6_bitCount_0f7a4) := goodIn_app (goodIn_of _ (by decide +kernel)) ggX8_many_J6_bitCount_0f7a4
set_option maxRecDepth 20000 in
theorem ggX8_many_X6_fullOnes : GoodIn wsX8_many wsX6_fullOnes := goodIn_r _ [31, 14, 32, 46, 47, 48, 49, 50, 51, 52, 53, 54, 55, 56, 57] (by decide +kernel) (by decide +kernel)
set_option maxRecDepth 20000 in
theorem gX8_many_X6_fullOnes : GoodIn wsX8_many (wsV RX8 330 RX6 yX6_fullOnes wsX6_fullOnes) := goodIn_app (goodIn_of _ (by decide +kernel)) ggX8_many_X6_fullOnes
theorem dX8_many_0 : decode cX8_many 0 = .ok (.iload_n 1, 1) := by decide +kernel
theorem dX8_many_1 : decode cX8_many 1 = .ok (.tableswitch 102 0 6 #[43, 51, 59, 70, 78, 86, 94], 43) := by decide +kernel
theorem dX8_many_44 : decode cX8_many 44 = .ok (.aload_n 0, 1) := by decide +kernel
theorem dX8_many_45 : decode cX8_many 45 = .ok (.getfield 10, 3) := by decide +kernel
theorem dX8_many_48 : decode cX8_many 48 = .ok (.getfield 114, 3) := by decide +kernel
theorem dX8_many_51 : decode cX8_many 51 = .ok (.ireturn, 1) := by decide +kernel
theorem dX8_many_52 : decode cX8_many 52 = .ok (.aload_n 0, 1) := by decide +kernel
theorem dX8_many_53 : decode cX8_many 53 = .ok (.getfield 10, 3) := by decide +kernel
theorem dX8_many_56 : decode cX8_many 56 = .ok (.invokevirtual 322, 3) := by decide +kernel
theorem dX8_many_59 : decode cX8_many 59 = .ok (.ireturn, 1) := by decide +kernel
theorem dX8_many_60 : decode cX8_many 60 = .ok (.aload_n 0, 1) := by decide +kernel
theorem dX8_many_61 : decode cX8_many 61 = .ok (.getfield 10, 3) := by decide +kernel
theorem dX8_many_64 : decode cX8_many 64 = .ok (.invokevirtual 206, 3) := by decide +kernel
theorem dX8_many_67 : decode cX8_many 67 = .ok (.invokestatic 325, 3) := by decide +kernel
theorem dX8_many_70 : decode cX8_many 70 = .ok (.ireturn, 1) := by decide +kernel
theorem dX8_many_71 : decode cX8_many 71 = .ok (.aload_n 0, 1) := by decide +kernel
theorem dX8_many_72 : decode cX8_many 72 = .ok (.getfield 10, 3) := by decide +kernel
theorem dX8_many_75 : decode cX8_many 75 = .ok (.invokevirtual 330, 3) := by decide +kernel
theorem dX8_many_78 : decode cX8_many 78 = .ok (.ireturn, 1) := by decide +kernel
theorem dX8_many_79 : decode cX8_many 79 = .ok (.aload_n 0, 1) := by decide +kernel
theorem dX8_many_80 : decode cX8_many 80 = .ok (.getfield 59, 3) := by decide +kernel
theorem dX8_many_83 : decode cX8_many 83 = .ok (.getfield 111, 3) := by decide +kernel
theorem dX8_many_86 : decode cX8_many 86 = .ok (.ireturn, 1) := by decide +kernel
theorem dX8_many_87 : decode cX8_many 87 = .ok (.aload_n 0, 1) := by decide +kernel
theorem dX8_many_88 : decode cX8_many 88 = .ok (.getfield 43, 3) := by decide +kernel
theorem dX8_many_91 : decode cX8_many 91 = .ok (.getfield 87, 3) := by decide +kernel
theorem dX8_many_94 : decode cX8_many 94 = .ok (.ireturn, 1) := by decide +kernel
theorem dX8_many_95 : decode cX8_many 95 = .ok (.aload_n 0, 1) := by decide +kernel
theorem dX8_many_96 : decode cX8_many 96 = .ok (.getfield 66, 3) := by decide +kernel
theorem dX8_many_99 : decode cX8_many 99 = .ok (.getfield 316, 3) := by decide +kernel
theorem dX8_many_102 : decode cX8_many 102 = .ok (.ireturn, 1) := by decide +kernel
theorem dX8_many_103 : decode cX8_many 103 = .ok (.iconst (-1), 1) := by decide +kernel
theorem dX8_many_104 : decode cX8_many 104 = .ok (.ireturn, 1) := by decide +kernel
set_option maxRecDepth 20000 in
theorem ggX8_keep_X6_copyFrom : GoodIn wsX8_keep wsX6_copyFrom := goodIn_r _ [8, 9, 10, 11, 12, 13, 14, 15, 16, 17, 18, 19, 20, 21, 7, 22, 23, 24, 38, 39, 40, 41, 42, 43, 44, 45, 46, 47, 48, 49] (by decide +kernel) (by decide +kernel)
set_option maxRecDepth 20000 in
theorem gX8_keep_X6_copyFrom : GoodIn wsX8_keep (wsV RX8 108 RX6 yX6_copyFrom wsX6_copyFrom) := goodIn_app (goodIn_of _ (by decide +kernel)) ggX8_keep_X6_copyFrom
theorem dX8_keep_0 : decode cX8_keep 0 = .ok (.aload_n 0, 1) := by decide +kernel
theorem dX8_keep_1 : decode cX8_keep 1 = .ok (.getfield 16, 3) := by decide +kernel
theorem dX8_keep_4 : decode cX8_keep 4 = .ok (.aload_n 0, 1) := by decide +kernel
theorem dX8_keep_5 : decode cX8_keep 5 = .ok (.getfield 10, 3) := by decide +kernel
theorem dX8_keep_8 : decode cX8_keep 8 = .ok (.invokevirtual 108, 3) := by decide +kernel
theorem dX8_keep_11 : decode cX8_keep 11 = .ok (.aload_n 0, 1) := by decide +kernel
theorem dX8_keep_12 : decode cX8_keep 12 = .ok (.iconst 1, 1) := by decide +kernel
theorem dX8_keep_13 : decode cX8_keep 13 = .ok (.putfield 333, 3) := by decide +kernel
theorem dX8_keep_16 : decode cX8_keep 16 = .ok (.iconst 1, 1) := by decide +kernel
theorem dX8_keep_17 : decode cX8_keep 17 = .ok (.ireturn, 1) := by decide +kernel
set_option maxRecDepth 20000 in
theorem ggX8_again_X6_copyFrom : GoodIn wsX8_again wsX6_copyFrom := goodIn_r _ [9, 10, 11, 12, 13, 14, 15, 16, 17, 18, 19, 20, 21, 22, 8, 23, 24, 25, 39, 40, 41, 42, 43, 44, 45, 46, 47, 48, 49, 50] (by decide +kernel) (by decide +kernel)
set_option maxRecDepth 20000 in
theorem gX8_again_X6_copyFrom : GoodIn wsX8_again (wsV RX8 108 RX6 yX6_copyFrom wsX6_copyFrom) := goodIn_app (goodIn_of _ (by decide +kernel)) ggX8_again_X6_copyFrom
theorem dX8_again_0 : decode cX8_again 0 = .ok (.aload_n 0, 1) := by decide +kernel
theorem dX8_again_1 : decode cX8_again 1 = .ok (.getfield 333, 3) := by decide +kernel
theorem dX8_again_4 : decode cX8_again 4 = .ok (.ifCond .ne 6, 3) := by decide +kernel
theorem dX8_again_7 : decode cX8_again 7 = .ok (.bipush (-3), 2) := by decide +kernel
theorem dX8_again_9 : decode cX8_again 9 = .ok (.ireturn, 1) := by decide +kernel
theorem dX8_again_10 : decode cX8_again 10 = .ok (.aload_n 0, 1) := by decide +kernel
theorem dX8_again_11 : decode cX8_again 11 = .ok (.getfield 10, 3) := by decide +kernel
theorem dX8_again_14 : decode cX8_again 14 = .ok (.aload_n 0, 1) := by decide +kernel
theorem dX8_again_15 : decode cX8_again 15 = .ok (.getfield 16, 3) := by decide +kernel
theorem dX8_again_18 : decode cX8_again 18 = .ok (.invokevirtual 108, 3) := by decide +kernel
theorem dX8_again_21 : decode cX8_again 21 = .ok (.aload_n 0, 1) := by decide +kernel
theorem dX8_again_22 : decode cX8_again 22 = .ok (.getfield 10, 3) := by decide +kernel
theorem dX8_again_25 : decode cX8_again 25 = .ok (.getfield 114, 3) := by decide +kernel
theorem dX8_again_28 : decode cX8_again 28 = .ok (.ireturn, 1) := by decide +kernel
theorem dX8_placeOnShelf_0 : decode cX8_placeOnShelf 0 = .ok (.aload_n 0, 1) := by decide +kernel
theorem dX8_placeOnShelf_1 : decode cX8_placeOnShelf 1 = .ok (.getfield 76, 3) := by decide +kernel
theorem dX8_placeOnShelf_4 : decode cX8_placeOnShelf 4 = .ok (.iload_n 1, 1) := by decide +kernel
theorem dX8_placeOnShelf_5 : decode cX8_placeOnShelf 5 = .ok (.iload_n 2, 1) := by decide +kernel
theorem dX8_placeOnShelf_6 : decode cX8_placeOnShelf 6 = .ok (.iastore, 1) := by decide +kernel
theorem dX8_placeOnShelf_7 : decode cX8_placeOnShelf 7 = .ok (.aload_n 0, 1) := by decide +kernel
theorem dX8_placeOnShelf_8 : decode cX8_placeOnShelf 8 = .ok (.getfield 80, 3) := by decide +kernel
theorem dX8_placeOnShelf_11 : decode cX8_placeOnShelf 11 = .ok (.iload_n 1, 1) := by decide +kernel
theorem dX8_placeOnShelf_12 : decode cX8_placeOnShelf 12 = .ok (.aload_n 3, 1) := by decide +kernel
theorem dX8_placeOnShelf_13 : decode cX8_placeOnShelf 13 = .ok (.aastore, 1) := by decide +kernel
theorem dX8_placeOnShelf_14 : decode cX8_placeOnShelf 14 = .ok (.return_, 1) := by decide +kernel
theorem dX8_within_0 : decode cX8_within 0 = .ok (.iload_n 0, 1) := by decide +kernel
theorem dX8_within_1 : decode cX8_within 1 = .ok (.iload_n 1, 1) := by decide +kernel
theorem dX8_within_2 : decode cX8_within 2 = .ok (.if_icmp .lt 12, 3) := by decide +kernel
theorem dX8_within_5 : decode cX8_within 5 = .ok (.iload_n 0, 1) := by decide +kernel
theorem dX8_within_6 : decode cX8_within 6 = .ok (.iload_n 2, 1) := by decide +kernel
theorem dX8_within_7 : decode cX8_within 7 = .ok (.if_icmp .gt 7, 3) := by decide +kernel
theorem dX8_within_10 : decode cX8_within 10 = .ok (.iconst 1, 1) := by decide +kernel
theorem dX8_within_11 : decode cX8_within 11 = .ok (.goto 4, 3) := by decide +kernel
theorem dX8_within_14 : decode cX8_within 14 = .ok (.iconst 0, 1) := by decide +kernel
theorem dX8_within_15 : decode cX8_within 15 = .ok (.ireturn, 1) := by decide +kernel
set_option maxRecDepth 20000 in
theorem ggX8_isLaw_X8_within : GoodIn wsX8_isLaw wsX8_within := goodIn_r _ [4] (by decide +kernel) (by decide +kernel)
set_option maxRecDepth 20000 in
theorem gX8_isLaw_X8_within : GoodIn wsX8_isLaw (va_wsS RX8 83 yX8_within wsX8_within) := goodIn_app (goodIn_of _ (by decide +kernel)) ggX8_isLaw_X8_within
theorem dX8_isLaw_0 : decode cX8_isLaw 0 = .ok (.iload_n 0, 1) := by decide +kernel
theorem dX8_isLaw_1 : decode cX8_isLaw 1 = .ok (.iconst 0, 1) := by decide +kernel
theorem dX8_isLaw_2 : decode cX8_isLaw 2 = .ok (.iconst 3, 1) := by decide +kernel
theorem dX8_isLaw_3 : decode cX8_isLaw 3 = .ok (.invokestatic 83, 3) := by decide +kernel
theorem dX8_isLaw_6 : decode cX8_isLaw 6 = .ok (.ireturn, 1) := by decide +kernel
theorem dX8_mostOfLaw_0 : decode cX8_mostOfLaw 0 = .ok (.iload_n 0, 1) := by decide +kernel
theorem dX8_mostOfLaw_1 : decode cX8_mostOfLaw 1 = .ok (.iconst 3, 1) := by decide +kernel
theorem dX8_mostOfLaw_2 : decode cX8_mostOfLaw 2 = .ok (.if_icmp .ne 8, 3) := by decide +kernel
theorem dX8_mostOfLaw_5 : decode cX8_mostOfLaw 5 = .ok (.bipush 99, 2) := by decide +kernel
theorem dX8_mostOfLaw_7 : decode cX8_mostOfLaw 7 = .ok (.goto 5, 3) := by decide +kernel
theorem dX8_mostOfLaw_10 : decode cX8_mostOfLaw 10 = .ok (.bipush 9, 2) := by decide +kernel
theorem dX8_mostOfLaw_12 : decode cX8_mostOfLaw 12 = .ok (.ireturn, 1) := by decide +kernel
set_option maxRecDepth 20000 in
theorem ggX8_isKind_X8_within : GoodIn wsX8_isKind wsX8_within := goodIn_r _ [4] (by decide +kernel) (by decide +kernel)
set_option maxRecDepth 20000 in
theorem gX8_isKind_X8_within : GoodIn wsX8_isKind (va_wsS RX8 83 yX8_within wsX8_within) := goodIn_app (goodIn_of _ (by decide +kernel)) ggX8_isKind_X8_within
theorem dX8_isKind_0 : decode cX8_isKind 0 = .ok (.iload_n 0, 1) := by decide +kernel
theorem dX8_isKind_1 : decode cX8_isKind 1 = .ok (.iconst 0, 1) := by decide +kernel
theorem dX8_isKind_2 : decode cX8_isKind 2 = .ok (.iconst 5, 1) := by decide +kernel
theorem dX8_isKind_3 : decode cX8_isKind 3 = .ok (.invokestatic 83, 3) := by decide +kernel
theorem dX8_isKind_6 : decode cX8_isKind 6 = .ok (.ireturn, 1) := by decide +kernel
set_option maxRecDepth 20000 in
theorem ggX8_isVoice_X8_within : GoodIn wsX8_isVoice wsX8_within := goodIn_r _ [4] (by decide +kernel) (by decide +kernel)
set_option maxRecDepth 20000 in
theorem gX8_isVoice_X8_within : GoodIn wsX8_isVoice (va_wsS RX8 83 yX8_within wsX8_within) := goodIn_app (goodIn_of _ (by decide +kernel)) ggX8_isVoice_X8_within
theorem dX8_isVoice_0 : decode cX8_isVoice 0 = .ok (.iload_n 0, 1) := by decide +kernel
theorem dX8_isVoice_1 : decode cX8_isVoice 1 = .ok (.iconst 0, 1) := by decide +kernel
theorem dX8_isVoice_2 : decode cX8_isVoice 2 = .ok (.bipush 9, 2) := by decide +kernel
theorem dX8_isVoice_4 : decode cX8_isVoice 4 = .ok (.invokestatic 83, 3) := by decide +kernel
theorem dX8_isVoice_7 : decode cX8_isVoice 7 = .ok (.ireturn, 1) := by decide +kernel
set_option maxRecDepth 20000 in
theorem ggX8_isSheet_X8_within : GoodIn wsX8_isSheet wsX8_within := goodIn_r _ [4] (by decide +kernel) (by decide +kernel)
set_option maxRecDepth 20000 in
theorem gX8_isSheet_X8_within : GoodIn wsX8_isSheet (va_wsS RX8 83 yX8_within wsX8_within) := goodIn_app (goodIn_of _ (by decide +kernel)) ggX8_isSheet_X8_within
theorem dX8_isSheet_0 : decode cX8_isSheet 0 = .ok (.iload_n 0, 1) := by decide +kernel
theorem dX8_isSheet_1 : decode cX8_isSheet 1 = .ok (.iconst 0, 1) := by decide +kernel
theorem dX8_isSheet_2 : decode cX8_isSheet 2 = .ok (.iconst 3, 1) := by decide +kernel
theorem dX8_isSheet_3 : decode cX8_isSheet 3 = .ok (.invokestatic 83, 3) := by decide +kernel
theorem dX8_isSheet_6 : decode cX8_isSheet 6 = .ok (.ireturn, 1) := by decide +kernel
set_option maxRecDepth 20000 in
theorem ggX8_isShelf_X8_within : GoodIn wsX8_isShelf wsX8_within := goodIn_r _ [4] (by decide +kernel) (by decide +kernel)
set_option maxRecDepth 20000 in
theorem gX8_isShelf_X8_within : GoodIn wsX8_isShelf (va_wsS RX8 83 yX8_within wsX8_within) := goodIn_app (goodIn_of _ (by decide +kernel)) ggX8_isShelf_X8_within
theorem dX8_isShelf_0 : decode cX8_isShelf 0 = .ok (.iload_n 0, 1) := by decide +kernel
theorem dX8_isShelf_1 : decode cX8_isShelf 1 = .ok (.iconst 0, 1) := by decide +kernel
theorem dX8_isShelf_2 : decode cX8_isShelf 2 = .ok (.iconst 3, 1) := by decide +kernel
theorem dX8_isShelf_3 : decode cX8_isShelf 3 = .ok (.invokestatic 83, 3) := by decide +kernel
theorem dX8_isShelf_6 : decode cX8_isShelf 6 = .ok (.ireturn, 1) := by decide +kernel
theorem dX8_isUnder_0 : decode cX8_isUnder 0 = .ok (.iload_n 1, 1) := by decide +kernel
theorem dX8_isUnder_1 : decode cX8_isUnder 1 = .ok (.ifCond .eq 8, 3) := by decide +kernel
theorem dX8_isUnder_4 : decode cX8_isUnder 4 = .ok (.iload_n 1, 1) := by decide +kernel
theorem dX8_isUnder_5 : decode cX8_isUnder 5 = .ok (.iload_n 0, 1) := by decide +kernel
theorem dX8_isUnder_6 : decode cX8_isUnder 6 = .ok (.if_icmp .ne 5, 3) := by decide +kernel
theorem dX8_isUnder_9 : decode cX8_isUnder 9 = .ok (.iconst 1, 1) := by decide +kernel
theorem dX8_isUnder_10 : decode cX8_isUnder 10 = .ok (.ireturn, 1) := by decide +kernel
theorem dX8_isUnder_11 : decode cX8_isUnder 11 = .ok (.iload_n 1, 1) := by decide +kernel
theorem dX8_isUnder_12 : decode cX8_isUnder 12 = .ok (.iconst 1, 1) := by decide +kernel
theorem dX8_isUnder_13 : decode cX8_isUnder 13 = .ok (.if_icmp .ne 8, 3) := by decide +kernel
theorem dX8_isUnder_16 : decode cX8_isUnder 16 = .ok (.iload_n 0, 1) := by decide +kernel
theorem dX8_isUnder_17 : decode cX8_isUnder 17 = .ok (.iconst 3, 1) := by decide +kernel
theorem dX8_isUnder_18 : decode cX8_isUnder 18 = .ok (.if_icmp .eq 13, 3) := by decide +kernel
theorem dX8_isUnder_21 : decode cX8_isUnder 21 = .ok (.iload_n 1, 1) := by decide +kernel
theorem dX8_isUnder_22 : decode cX8_isUnder 22 = .ok (.iconst 2, 1) := by decide +kernel
theorem dX8_isUnder_23 : decode cX8_isUnder 23 = .ok (.if_icmp .ne 12, 3) := by decide +kernel
theorem dX8_isUnder_26 : decode cX8_isUnder 26 = .ok (.iload_n 0, 1) := by decide +kernel
theorem dX8_isUnder_27 : decode cX8_isUnder 27 = .ok (.iconst 4, 1) := by decide +kernel
theorem dX8_isUnder_28 : decode cX8_isUnder 28 = .ok (.if_icmp .ne 7, 3) := by decide +kernel
theorem dX8_isUnder_31 : decode cX8_isUnder 31 = .ok (.iconst 1, 1) := by decide +kernel
theorem dX8_isUnder_32 : decode cX8_isUnder 32 = .ok (.goto 4, 3) := by decide +kernel
theorem dX8_isUnder_35 : decode cX8_isUnder 35 = .ok (.iconst 0, 1) := by decide +kernel
theorem dX8_isUnder_36 : decode cX8_isUnder 36 = .ok (.ireturn, 1) := by decide +kernel
theorem dX8_power_0 : decode cX8_power 0 = .ok (.lconst 1, 1) := by decide +kernel
theorem dX8_power_1 : decode cX8_power 1 = .ok (.lstore_n 3, 1) := by decide +kernel
theorem dX8_power_2 : decode cX8_power 2 = .ok (.iconst 0, 1) := by decide +kernel
theorem dX8_power_3 : decode cX8_power 3 = .ok (.istore 5, 2) := by decide +kernel
theorem dX8_power_5 : decode cX8_power 5 = .ok (.iload 5, 2) := by decide +kernel
theorem dX8_power_7 : decode cX8_power 7 = .ok (.iload_n 2, 1) := by decide +kernel
theorem dX8_power_8 : decode cX8_power 8 = .ok (.if_icmp .ge 13, 3) := by decide +kernel
theorem dX8_power_11 : decode cX8_power 11 = .ok (.lload_n 3, 1) := by decide +kernel
theorem dX8_power_12 : decode cX8_power 12 = .ok (.lload_n 0, 1) := by decide +kernel
theorem dX8_power_13 : decode cX8_power 13 = .ok (.lmul, 1) := by decide +kernel
theorem dX8_power_14 : decode cX8_power 14 = .ok (.lstore_n 3, 1) := by decide +kernel
theorem dX8_power_15 : decode cX8_power 15 = .ok (.iinc 5 1, 3) := by decide +kernel
theorem dX8_power_18 : decode cX8_power 18 = .ok (.goto (-13), 3) := by decide +kernel
theorem dX8_power_21 : decode cX8_power 21 = .ok (.lload_n 3, 1) := by decide +kernel
theorem dX8_power_22 : decode cX8_power 22 = .ok (.lreturn, 1) := by decide +kernel
theorem dX8_waysToDraw_0 : decode cX8_waysToDraw 0 = .ok (.lconst 1, 1) := by decide +kernel
theorem dX8_waysToDraw_1 : decode cX8_waysToDraw 1 = .ok (.lstore_n 2, 1) := by decide +kernel
theorem dX8_waysToDraw_2 : decode cX8_waysToDraw 2 = .ok (.iconst 1, 1) := by decide +kernel
theorem dX8_waysToDraw_3 : decode cX8_waysToDraw 3 = .ok (.istore 4, 2) := by decide +kernel
theorem dX8_waysToDraw_5 : decode cX8_waysToDraw 5 = .ok (.iload 4, 2) := by decide +kernel
theorem dX8_waysToDraw_7 : decode cX8_waysToDraw 7 = .ok (.iload_n 1, 1) := by decide +kernel
theorem dX8_waysToDraw_8 : decode cX8_waysToDraw 8 = .ok (.if_icmp .gt 23, 3) := by decide +kernel
theorem dX8_waysToDraw_11 : decode cX8_waysToDraw 11 = .ok (.lload_n 2, 1) := by decide +kernel
theorem dX8_waysToDraw_12 : decode cX8_waysToDraw 12 = .ok (.iload_n 0, 1) := by decide +kernel
theorem dX8_waysToDraw_13 : decode cX8_waysToDraw 13 = .ok (.iload_n 1, 1) := by decide +kernel
theorem dX8_waysToDraw_14 : decode cX8_waysToDraw 14 = .ok (.isub, 1) := by decide +kernel
theorem dX8_waysToDraw_15 : decode cX8_waysToDraw 15 = .ok (.iload 4, 2) := by decide +kernel
theorem dX8_waysToDraw_17 : decode cX8_waysToDraw 17 = .ok (.iadd, 1) := by decide +kernel
theorem dX8_waysToDraw_18 : decode cX8_waysToDraw 18 = .ok (.i2l, 1) := by decide +kernel
theorem dX8_waysToDraw_19 : decode cX8_waysToDraw 19 = .ok (.lmul, 1) := by decide +kernel
theorem dX8_waysToDraw_20 : decode cX8_waysToDraw 20 = .ok (.iload 4, 2) := by decide +kernel
theorem dX8_waysToDraw_22 : decode cX8_waysToDraw 22 = .ok (.i2l, 1) := by decide +kernel
theorem dX8_waysToDraw_23 : decode cX8_waysToDraw 23 = .ok (.ldiv, 1) := by decide +kernel
theorem dX8_waysToDraw_24 : decode cX8_waysToDraw 24 = .ok (.lstore_n 2, 1) := by decide +kernel
theorem dX8_waysToDraw_25 : decode cX8_waysToDraw 25 = .ok (.iinc 4 1, 3) := by decide +kernel
theorem dX8_waysToDraw_28 : decode cX8_waysToDraw 28 = .ok (.goto (-23), 3) := by decide +kernel
theorem dX8_waysToDraw_31 : decode cX8_waysToDraw 31 = .ok (.lload_n 2, 1) := by decide +kernel
theorem dX8_waysToDraw_32 : decode cX8_waysToDraw 32 = .ok (.lreturn, 1) := by decide +kernel
set_option maxRecDepth 20000 in
theorem ggX8_partOf_X8_commonDivisor : GoodIn wsX8_partOf wsX8_commonDivisor := goodIn_r _ [4] (by decide +kernel) (by decide +kernel)
set_option maxRecDepth 20000 in
theorem gX8_partOf_X8_commonDivisor : GoodIn wsX8_partOf (va_wsS RX8 336 yX8_commonDivisor wsX8_commonDivisor) := goodIn_app (goodIn_of _ (by decide +kernel)) ggX8_partOf_X8_commonDivisor
theorem dX8_partOf_0 : decode cX8_partOf 0 = .ok (.lload_n 0, 1) := by decide +kernel
theorem dX8_partOf_1 : decode cX8_partOf 1 = .ok (.lload_n 2, 1) := by decide +kernel
theorem dX8_partOf_2 : decode cX8_partOf 2 = .ok (.invokestatic 336, 3) := by decide +kernel
theorem dX8_partOf_5 : decode cX8_partOf 5 = .ok (.lstore 5, 2) := by decide +kernel
theorem dX8_partOf_7 : decode cX8_partOf 7 = .ok (.lload 5, 2) := by decide +kernel
theorem dX8_partOf_9 : decode cX8_partOf 9 = .ok (.lconst 0, 1) := by decide +kernel
theorem dX8_partOf_10 : decode cX8_partOf 10 = .ok (.lcmp, 1) := by decide +kernel
theorem dX8_partOf_11 : decode cX8_partOf 11 = .ok (.ifCond .ne 5, 3) := by decide +kernel
theorem dX8_partOf_14 : decode cX8_partOf 14 = .ok (.lconst 0, 1) := by decide +kernel
theorem dX8_partOf_15 : decode cX8_partOf 15 = .ok (.lreturn, 1) := by decide +kernel
theorem dX8_partOf_16 : decode cX8_partOf 16 = .ok (.iload 4, 2) := by decide +kernel
theorem dX8_partOf_18 : decode cX8_partOf 18 = .ok (.ifCond .ne 7, 3) := by decide +kernel
theorem dX8_partOf_21 : decode cX8_partOf 21 = .ok (.lload_n 0, 1) := by decide +kernel
theorem dX8_partOf_22 : decode cX8_partOf 22 = .ok (.goto 4, 3) := by decide +kernel
theorem dX8_partOf_25 : decode cX8_partOf 25 = .ok (.lload_n 2, 1) := by decide +kernel
theorem dX8_partOf_26 : decode cX8_partOf 26 = .ok (.lload 5, 2) := by decide +kernel
theorem dX8_partOf_28 : decode cX8_partOf 28 = .ok (.ldiv, 1) := by decide +kernel
theorem dX8_partOf_29 : decode cX8_partOf 29 = .ok (.lreturn, 1) := by decide +kernel
theorem dX8_commonDivisor_0 : decode cX8_commonDivisor 0 = .ok (.lload_n 0, 1) := by decide +kernel
theorem dX8_commonDivisor_1 : decode cX8_commonDivisor 1 = .ok (.lstore 4, 2) := by decide +kernel
theorem dX8_commonDivisor_3 : decode cX8_commonDivisor 3 = .ok (.lload_n 2, 1) := by decide +kernel
theorem dX8_commonDivisor_4 : decode cX8_commonDivisor 4 = .ok (.lstore 6, 2) := by decide +kernel
theorem dX8_commonDivisor_6 : decode cX8_commonDivisor 6 = .ok (.iconst 0, 1) := by decide +kernel
theorem dX8_commonDivisor_7 : decode cX8_commonDivisor 7 = .ok (.istore 8, 2) := by decide +kernel
theorem dX8_commonDivisor_9 : decode cX8_commonDivisor 9 = .ok (.iload 8, 2) := by decide +kernel
theorem dX8_commonDivisor_11 : decode cX8_commonDivisor 11 = .ok (.bipush 100, 2) := by decide +kernel
theorem dX8_commonDivisor_13 : decode cX8_commonDivisor 13 = .ok (.if_icmp .ge 31, 3) := by decide +kernel
theorem dX8_commonDivisor_16 : decode cX8_commonDivisor 16 = .ok (.lload 6, 2) := by decide +kernel
theorem dX8_commonDivisor_18 : decode cX8_commonDivisor 18 = .ok (.lconst 0, 1) := by decide +kernel
theorem dX8_commonDivisor_19 : decode cX8_commonDivisor 19 = .ok (.lcmp, 1) := by decide +kernel
theorem dX8_commonDivisor_20 : decode cX8_commonDivisor 20 = .ok (.ifCond .eq 24, 3) := by decide +kernel
theorem dX8_commonDivisor_23 : decode cX8_commonDivisor 23 = .ok (.lload 4, 2) := by decide +kernel
theorem dX8_commonDivisor_25 : decode cX8_commonDivisor 25 = .ok (.lload 6, 2) := by decide +kernel
theorem dX8_commonDivisor_27 : decode cX8_commonDivisor 27 = .ok (.lrem, 1) := by decide +kernel
theorem dX8_commonDivisor_28 : decode cX8_commonDivisor 28 = .ok (.lstore 9, 2) := by decide +kernel
theorem dX8_commonDivisor_30 : decode cX8_commonDivisor 30 = .ok (.lload 6, 2) := by decide +kernel
theorem dX8_commonDivisor_32 : decode cX8_commonDivisor 32 = .ok (.lstore 4, 2) := by decide +kernel
theorem dX8_commonDivisor_34 : decode cX8_commonDivisor 34 = .ok (.lload 9, 2) := by decide +kernel
theorem dX8_commonDivisor_36 : decode cX8_commonDivisor 36 = .ok (.lstore 6, 2) := by decide +kernel
theorem dX8_commonDivisor_38 : decode cX8_commonDivisor 38 = .ok (.iinc 8 1, 3) := by decide +kernel
theorem dX8_commonDivisor_41 : decode cX8_commonDivisor 41 = .ok (.goto (-32), 3) := by decide +kernel
theorem dX8_commonDivisor_44 : decode cX8_commonDivisor 44 = .ok (.lload 4, 2) := by decide +kernel
theorem dX8_commonDivisor_46 : decode cX8_commonDivisor 46 = .ok (.lreturn, 1) := by decide +kernel
