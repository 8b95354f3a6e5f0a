theorem dX9_luck_95 : decode cX9_luck 95 = .ok (.goto (-52), 3) := by decide +kernel
theorem dX9_luck_98 : decode cX9_luck 98 = .ok (.aload_n 0, 1) := by decide +kernel
theorem dX9_luck_99 : decode cX9_luck 99 = .ok (.getfield 16, 3) := by decide +kernel
theorem dX9_luck_102 : decode cX9_luck 102 = .ok (.aload_n 0, 1) := by decide +kernel
theorem dX9_luck_103 : decode cX9_luck 103 = .ok (.getfield 7, 3) := by decide +kernel
theorem dX9_luck_106 : decode cX9_luck 106 = .ok (.invokestatic 150, 3) := by decide +kernel
theorem dX9_luck_109 : decode cX9_luck 109 = .ok (.iload 4, 2) := by decide +kernel
theorem dX9_luck_111 : decode cX9_luck 111 = .ok (.ireturn, 1) := by decide +kernel
set_option maxRecDepth 20000 in
theorem ggX9_sumOf_X9_its : GoodIn wsX9_sumOf wsX9_its := goodIn_r _ [6, 1, 7, 8, 9, 10, 11, 12, 13, 14, 15, 16, 17, 18, 19, 20, 21, 22, 23, 24, 25, 26, 27, 28, 29, 30, 31, 32, 33, 34, 35] (by decide +kernel) (by decide +kernel)
set_option maxRecDepth 20000 in
theorem gX9_sumOf_X9_its : GoodIn wsX9_sumOf (wsV RX9 172 RX9 yX9_its wsX9_its) := goodIn_app (goodIn_of _ (by decide +kernel)) ggX9_sumOf_X9_its
theorem dX9_sumOf_0 : decode cX9_sumOf 0 = .ok (.iconst 0, 1) := by decide +kernel
theorem dX9_sumOf_1 : decode cX9_sumOf 1 = .ok (.istore_n 2, 1) := by decide +kernel
theorem dX9_sumOf_2 : decode cX9_sumOf 2 = .ok (.iconst 0, 1) := by decide +kernel
theorem dX9_sumOf_3 : decode cX9_sumOf 3 = .ok (.istore_n 3, 1) := by decide +kernel
theorem dX9_sumOf_4 : decode cX9_sumOf 4 = .ok (.iload_n 3, 1) := by decide +kernel
theorem dX9_sumOf_5 : decode cX9_sumOf 5 = .ok (.aload_n 0, 1) := by decide +kernel
theorem dX9_sumOf_6 : decode cX9_sumOf 6 = .ok (.getfield 7, 3) := by decide +kernel
theorem dX9_sumOf_9 : decode cX9_sumOf 9 = .ok (.iconst 0, 1) := by decide +kernel
theorem dX9_sumOf_10 : decode cX9_sumOf 10 = .ok (.iaload, 1) := by decide +kernel
theorem dX9_sumOf_11 : decode cX9_sumOf 11 = .ok (.if_icmp .ge 18, 3) := by decide +kernel
theorem dX9_sumOf_14 : decode cX9_sumOf 14 = .ok (.iload_n 2, 1) := by decide +kernel
theorem dX9_sumOf_15 : decode cX9_sumOf 15 = .ok (.aload_n 0, 1) := by decide +kernel
theorem dX9_sumOf_16 : decode cX9_sumOf 16 = .ok (.iload_n 3, 1) := by decide +kernel
theorem dX9_sumOf_17 : decode cX9_sumOf 17 = .ok (.iload_n 1, 1) := by decide +kernel
theorem dX9_sumOf_18 : decode cX9_sumOf 18 = .ok (.invokevirtual 172, 3) := by decide +kernel
theorem dX9_sumOf_21 : decode cX9_sumOf 21 = .ok (.iadd, 1) := by decide +kernel
theorem dX9_sumOf_22 : decode cX9_sumOf 22 = .ok (.istore_n 2, 1) := by decide +kernel
theorem dX9_sumOf_23 : decode cX9_sumOf 23 = .ok (.iinc 3 1, 3) := by decide +kernel
theorem dX9_sumOf_26 : decode cX9_sumOf 26 = .ok (.goto (-22), 3) := by decide +kernel
theorem dX9_sumOf_29 : decode cX9_sumOf 29 = .ok (.iload_n 2, 1) := by decide +kernel
theorem dX9_sumOf_30 : decode cX9_sumOf 30 = .ok (.ireturn, 1) := by decide +kernel
set_option maxRecDepth 20000 in
theorem ggX9_speakers_X9_its : GoodIn wsX9_speakers wsX9_its := goodIn_r _ [6, 1, 7, 8, 9, 10, 11, 12, 13, 14, 15, 16, 17, 18, 19, 20, 21, 22, 23, 24, 25, 26, 27, 28, 29, 30, 31, 32, 33, 34, 35] (by decide +kernel) (by decide +kernel)
set_option maxRecDepth 20000 in
theorem gX9_speakers_X9_its : GoodIn wsX9_speakers (wsV RX9 172 RX9 yX9_its wsX9_its) := goodIn_app (goodIn_of _ (by decide +kernel)) ggX9_speakers_X9_its
theorem dX9_speakers_0 : decode cX9_speakers 0 = .ok (.iconst 0, 1) := by decide +kernel
theorem dX9_speakers_1 : decode cX9_speakers 1 = .ok (.istore_n 1, 1) := by decide +kernel
theorem dX9_speakers_2 : decode cX9_speakers 2 = .ok (.iconst 0, 1) := by decide +kernel
theorem dX9_speakers_3 : decode cX9_speakers 3 = .ok (.istore_n 2, 1) := by decide +kernel
theorem dX9_speakers_4 : decode cX9_speakers 4 = .ok (.iload_n 2, 1) := by decide +kernel
theorem dX9_speakers_5 : decode cX9_speakers 5 = .ok (.aload_n 0, 1) := by decide +kernel
theorem dX9_speakers_6 : decode cX9_speakers 6 = .ok (.getfield 7, 3) := by decide +kernel
theorem dX9_speakers_9 : decode cX9_speakers 9 = .ok (.iconst 0, 1) := by decide +kernel
theorem dX9_speakers_10 : decode cX9_speakers 10 = .ok (.iaload, 1) := by decide +kernel
theorem dX9_speakers_11 : decode cX9_speakers 11 = .ok (.if_icmp .ge 20, 3) := by decide +kernel
theorem dX9_speakers_14 : decode cX9_speakers 14 = .ok (.iload_n 1, 1) := by decide +kernel
theorem dX9_speakers_15 : decode cX9_speakers 15 = .ok (.aload_n 0, 1) := by decide +kernel
theorem dX9_speakers_16 : decode cX9_speakers 16 = .ok (.iload_n 2, 1) := by decide +kernel
theorem dX9_speakers_17 : decode cX9_speakers 17 = .ok (.iconst 5, 1) := by decide +kernel
theorem dX9_speakers_18 : decode cX9_speakers 18 = .ok (.invokevirtual 172, 3) := by decide +kernel
theorem dX9_speakers_21 : decode cX9_speakers 21 = .ok (.iload_n 2, 1) := by decide +kernel
theorem dX9_speakers_22 : decode cX9_speakers 22 = .ok (.ishl, 1) := by decide +kernel
theorem dX9_speakers_23 : decode cX9_speakers 23 = .ok (.ior, 1) := by decide +kernel
theorem dX9_speakers_24 : decode cX9_speakers 24 = .ok (.istore_n 1, 1) := by decide +kernel
theorem dX9_speakers_25 : decode cX9_speakers 25 = .ok (.iinc 2 1, 3) := by decide +kernel
theorem dX9_speakers_28 : decode cX9_speakers 28 = .ok (.goto (-24), 3) := by decide +kernel
theorem dX9_speakers_31 : decode cX9_speakers 31 = .ok (.iload_n 1, 1) := by decide +kernel
theorem dX9_speakers_32 : decode cX9_speakers 32 = .ok (.ireturn, 1) := by decide +kernel
set_option maxRecDepth 20000 in
theorem ggX9_state_X9_sumOf : GoodIn wsX9_state wsX9_sumOf := goodIn_r _ [6, 1, 7, 8, 9, 5, 10, 15, 16, 17, 18, 19, 20, 21, 22, 23, 24, 25, 26, 27, 28, 29, 30, 31, 32, 33, 34, 35, 36, 37, 38, 39, 40, 41, 42, 43] (by decide +kernel) (by decide +kernel)
set_option maxRecDepth 20000 in
theorem gX9_state_X9_sumOf : GoodIn wsX9_state (wsV RX9 219 RX9 yX9_sumOf wsX9_sumOf) := goodIn_app (goodIn_of _ (by decide +kernel)) ggX9_state_X9_sumOf
set_option maxRecDepth 20000 in
theorem ggX9_state_X9_speakers : GoodIn wsX9_state wsX9_speakers := goodIn_r _ [14, 1, 7, 8, 9, 5, 10, 15, 16, 17, 18, 19, 20, 21, 22, 23, 24, 25, 26, 27, 28, 29, 30, 31, 32, 33, 34, 35, 36, 37, 38, 39, 40, 41, 42, 43] (by decide +kernel) (by decide +kernel)
set_option maxRecDepth 20000 in
theorem gX9_state_X9_speakers : GoodIn wsX9_state (wsV RX9 222 RX9 yX9_speakers wsX9_speakers) := goodIn_app (goodIn_of _ (by decide +kernel)) ggX9_state_X9_speakers
theorem dX9_state_0 : decode cX9_state 0 = .ok (.iload_n 1, 1) := by decide +kernel
theorem dX9_state_1 : decode cX9_state 1 = .ok (.tableswitch 77 0 5 #[39, 46, 53, 60, 66, 72], 39) := by decide +kernel
theorem dX9_state_40 : decode cX9_state 40 = .ok (.aload_n 0, 1) := by decide +kernel
theorem dX9_state_41 : decode cX9_state 41 = .ok (.getfield 7, 3) := by decide +kernel
theorem dX9_state_44 : decode cX9_state 44 = .ok (.iconst 1, 1) := by decide +kernel
theorem dX9_state_45 : decode cX9_state 45 = .ok (.iaload, 1) := by decide +kernel
theorem dX9_state_46 : decode cX9_state 46 = .ok (.ireturn, 1) := by decide +kernel
theorem dX9_state_47 : decode cX9_state 47 = .ok (.aload_n 0, 1) := by decide +kernel
theorem dX9_state_48 : decode cX9_state 48 = .ok (.getfield 7, 3) := by decide +kernel
theorem dX9_state_51 : decode cX9_state 51 = .ok (.iconst 3, 1) := by decide +kernel
theorem dX9_state_52 : decode cX9_state 52 = .ok (.iaload, 1) := by decide +kernel
theorem dX9_state_53 : decode cX9_state 53 = .ok (.ireturn, 1) := by decide +kernel
theorem dX9_state_54 : decode cX9_state 54 = .ok (.aload_n 0, 1) := by decide +kernel
theorem dX9_state_55 : decode cX9_state 55 = .ok (.getfield 7, 3) := by decide +kernel
theorem dX9_state_58 : decode cX9_state 58 = .ok (.iconst 4, 1) := by decide +kernel
theorem dX9_state_59 : decode cX9_state 59 = .ok (.iaload, 1) := by decide +kernel
theorem dX9_state_60 : decode cX9_state 60 = .ok (.ireturn, 1) := by decide +kernel
theorem dX9_state_61 : decode cX9_state 61 = .ok (.aload_n 0, 1) := by decide +kernel
theorem dX9_state_62 : decode cX9_state 62 = .ok (.iconst 1, 1) := by decide +kernel
theorem dX9_state_63 : decode cX9_state 63 = .ok (.invokevirtual 219, 3) := by decide +kernel
theorem dX9_state_66 : decode cX9_state 66 = .ok (.ireturn, 1) := by decide +kernel
theorem dX9_state_67 : decode cX9_state 67 = .ok (.aload_n 0, 1) := by decide +kernel
theorem dX9_state_68 : decode cX9_state 68 = .ok (.iconst 2, 1) := by decide +kernel
theorem dX9_state_69 : decode cX9_state 69 = .ok (.invokevirtual 219, 3) := by decide +kernel
theorem dX9_state_72 : decode cX9_state 72 = .ok (.ireturn, 1) := by decide +kernel
theorem dX9_state_73 : decode cX9_state 73 = .ok (.aload_n 0, 1) := by decide +kernel
theorem dX9_state_74 : decode cX9_state 74 = .ok (.invokevirtual 222, 3) := by decide +kernel
theorem dX9_state_77 : decode cX9_state 77 = .ok (.ireturn, 1) := by decide +kernel
theorem dX9_state_78 : decode cX9_state 78 = .ok (.iconst (-1), 1) := by decide +kernel
theorem dX9_state_79 : decode cX9_state 79 = .ok (.ireturn, 1) := by decide +kernel
set_option maxRecDepth 20000 in
theorem ggX9_soundBy_X9_copyRow : GoodIn wsX9_soundBy wsX9_copyRow := goodIn_r _ [6] (by decide +kernel) (by decide +kernel)
set_option maxRecDepth 20000 in
theorem gX9_soundBy_X9_copyRow : GoodIn wsX9_soundBy (va_wsS RX9 150 yX9_copyRow wsX9_copyRow) := goodIn_app (goodIn_of _ (by decide +kernel)) ggX9_soundBy_X9_copyRow
set_option maxRecDepth 20000 in
theorem ggX9_soundBy_X9_goesOn : GoodIn wsX9_soundBy wsX9_goesOn := goodIn_r _ [10, 1, 11, 12, 13, 14, 5, 15, 16, 17, 18, 19, 20, 21, 22, 23, 24, 25, 26, 27, 28, 29, 30, 31, 32, 33, 34, 35, 36, 37, 38, 39, 40, 41, 42, 43, 44, 45, 46, 47, 48, 49, 50, 51, 52, 53, 54, 55, 56, 57, 58, 59, 60, 61, 62, 63, 64, 65, 66, 67, 68, 69, 70, 71, 72, 73, 74] (by decide +kernel) (by decide +kernel)
set_option maxRecDepth 20000 in
theorem gX9_soundBy_X9_goesOn : GoodIn wsX9_soundBy (wsV RX9 207 RX9 yX9_goesOn wsX9_goesOn) := goodIn_app (goodIn_of _ (by decide +kernel)) ggX9_soundBy_X9_goesOn
theorem dX9_soundBy_0 : decode cX9_soundBy 0 = .ok (.aload_n 0, 1) := by decide +kernel
theorem dX9_soundBy_1 : decode cX9_soundBy 1 = .ok (.getfield 7, 3) := by decide +kernel
theorem dX9_soundBy_4 : decode cX9_soundBy 4 = .ok (.aload_n 0, 1) := by decide +kernel
theorem dX9_soundBy_5 : decode cX9_soundBy 5 = .ok (.getfield 16, 3) := by decide +kernel
theorem dX9_soundBy_8 : decode cX9_soundBy 8 = .ok (.invokestatic 150, 3) := by decide +kernel
theorem dX9_soundBy_11 : decode cX9_soundBy 11 = .ok (.iconst 0, 1) := by decide +kernel
theorem dX9_soundBy_12 : decode cX9_soundBy 12 = .ok (.istore_n 2, 1) := by decide +kernel
theorem dX9_soundBy_13 : decode cX9_soundBy 13 = .ok (.iconst 0, 1) := by decide +kernel
theorem dX9_soundBy_14 : decode cX9_soundBy 14 = .ok (.istore_n 3, 1) := by decide +kernel
theorem dX9_soundBy_15 : decode cX9_soundBy 15 = .ok (.iload_n 3, 1) := by decide +kernel
theorem dX9_soundBy_16 : decode cX9_soundBy 16 = .ok (.iload_n 1, 1) := by decide +kernel
theorem dX9_soundBy_17 : decode cX9_soundBy 17 = .ok (.if_icmp .ge 16, 3) := by decide +kernel
theorem dX9_soundBy_20 : decode cX9_soundBy 20 = .ok (.iload_n 2, 1) := by decide +kernel
theorem dX9_soundBy_21 : decode cX9_soundBy 21 = .ok (.aload_n 0, 1) := by decide +kernel
theorem dX9_soundBy_22 : decode cX9_soundBy 22 = .ok (.invokevirtual 207, 3) := by decide +kernel
theorem dX9_soundBy_25 : decode cX9_soundBy 25 = .ok (.iadd, 1) := by decide +kernel
theorem dX9_soundBy_26 : decode cX9_soundBy 26 = .ok (.istore_n 2, 1) := by decide +kernel
theorem dX9_soundBy_27 : decode cX9_soundBy 27 = .ok (.iinc 3 1, 3) := by decide +kernel
theorem dX9_soundBy_30 : decode cX9_soundBy 30 = .ok (.goto (-15), 3) := by decide +kernel
theorem dX9_soundBy_33 : decode cX9_soundBy 33 = .ok (.aload_n 0, 1) := by decide +kernel
theorem dX9_soundBy_34 : decode cX9_soundBy 34 = .ok (.getfield 16, 3) := by decide +kernel
theorem dX9_soundBy_37 : decode cX9_soundBy 37 = .ok (.aload_n 0, 1) := by decide +kernel
theorem dX9_soundBy_38 : decode cX9_soundBy 38 = .ok (.getfield 7, 3) := by decide +kernel
theorem dX9_soundBy_41 : decode cX9_soundBy 41 = .ok (.invokestatic 150, 3) := by decide +kernel
theorem dX9_soundBy_44 : decode cX9_soundBy 44 = .ok (.iload_n 2, 1) := by decide +kernel
theorem dX9_soundBy_45 : decode cX9_soundBy 45 = .ok (.ireturn, 1) := by decide +kernel
set_option maxRecDepth 20000 in
theorem ggX9_sound_X9_isIn : GoodIn wsX9_sound wsX9_isIn := goodIn_r _ [5] (by decide +kernel) (by decide +kernel)
set_option maxRecDepth 20000 in
theorem gX9_sound_X9_isIn : GoodIn wsX9_sound (va_wsS RX9 60 yX9_isIn wsX9_isIn) := goodIn_app (goodIn_of _ (by decide +kernel)) ggX9_sound_X9_isIn
set_option maxRecDepth 20000 in
theorem ggX9_sound_X9_soundBy : GoodIn wsX9_sound wsX9_soundBy := goodIn_r _ [9, 10, 11, 12, 13, 4, 14, 15, 16, 17, 18, 19, 20, 21, 22, 23, 24, 25, 26, 27, 28, 29, 30, 31, 32, 33, 34, 35, 36, 37, 38, 39, 40, 41, 42, 43, 44, 45, 46, 47, 48, 49, 50, 51, 52, 53, 54, 55, 56, 57, 58, 59, 60, 61, 62, 63, 64, 65, 66, 67, 68, 69, 70, 71, 72, 73, 74, 75, 76, 77, 78, 79, 80, 81, 82] (by decide +kernel) (by decide +kernel)
set_option maxRecDepth 20000 in
theorem gX9_sound_X9_soundBy : GoodIn wsX9_sound (wsV RX9 225 RX9 yX9_soundBy wsX9_soundBy) := goodIn_app (goodIn_of _ (by decide +kernel)) ggX9_sound_X9_soundBy
theorem dX9_sound_0 : decode cX9_sound 0 = .ok (.iload_n 1, 1) := by decide +kernel
theorem dX9_sound_1 : decode cX9_sound 1 = .ok (.i2l, 1) := by decide +kernel
theorem dX9_sound_2 : decode cX9_sound 2 = .ok (.lconst 0, 1) := by decide +kernel
theorem dX9_sound_3 : decode cX9_sound 3 = .ok (.ldc2_w 205, 3) := by decide +kernel
theorem dX9_sound_6 : decode cX9_sound 6 = .ok (.invokestatic 60, 3) := by decide +kernel
theorem dX9_sound_9 : decode cX9_sound 9 = .ok (.ifCond .eq 11, 3) := by decide +kernel
theorem dX9_sound_12 : decode cX9_sound 12 = .ok (.aload_n 0, 1) := by decide +kernel
theorem dX9_sound_13 : decode cX9_sound 13 = .ok (.iload_n 1, 1) := by decide +kernel
theorem dX9_sound_14 : decode cX9_sound 14 = .ok (.invokevirtual 225, 3) := by decide +kernel
theorem dX9_sound_17 : decode cX9_sound 17 = .ok (.goto 4, 3) := by decide +kernel
theorem dX9_sound_20 : decode cX9_sound 20 = .ok (.iconst (-1), 1) := by decide +kernel
theorem dX9_sound_21 : decode cX9_sound 21 = .ok (.ireturn, 1) := by decide +kernel
set_option maxRecDepth 20000 in
theorem ggX9_needFirst_X9_copyRow : GoodIn wsX9_needFirst wsX9_copyRow := goodIn_r _ [6] (by decide +kernel) (by decide +kernel)
set_option maxRecDepth 20000 in
theorem gX9_needFirst_X9_copyRow : GoodIn wsX9_needFirst (va_wsS RX9 150 yX9_copyRow wsX9_copyRow) := goodIn_app (goodIn_of _ (by decide +kernel)) ggX9_needFirst_X9_copyRow
set_option maxRecDepth 20000 in
theorem ggX9_needFirst_X9_its : GoodIn wsX9_needFirst wsX9_its := goodIn_r _ [10, 1, 46, 47, 48, 49, 50, 51, 52, 53, 54, 55, 56, 57, 58, 59, 60, 61, 62, 63, 64, 65, 66, 67, 68, 69, 70, 71, 72, 73, 74] (by decide +kernel) (by decide +kernel)
set_option maxRecDepth 20000 in
theorem gX9_needFirst_X9_its : GoodIn wsX9_needFirst (wsV RX9 172 RX9 yX9_its wsX9_its) := goodIn_app (goodIn_of _ (by decide +kernel)) ggX9_needFirst_X9_its
set_option maxRecDepth 20000 in
theorem ggX9_needFirst_X9_goesOn : GoodIn wsX9_needFirst wsX9_goesOn := goodIn_r _ [14, 1, 15, 16, 17, 18, 5, 19, 20, 21, 22, 23, 7, 8, 9, 10, 24, 25, 26, 27, 28, 29, 30, 31, 32, 33, 34, 35, 36, 37, 38, 39, 40, 41, 42, 43, 44, 45, 46, 47, 48, 49, 50, 51, 52, 53, 54, 55, 56, 57, 58, 59, 60, 61, 62, 63, 64, 65, 66, 67, 68, 69, 70, 71, 72, 73, 74] (by decide +kernel) (by decide +kernel)
set_option maxRecDepth 20000 in
theorem gX9_needFirst_X9_goesOn : GoodIn wsX9_needFirst (wsV RX9 207 RX9 yX9_goesOn wsX9_goesOn) := goodIn_app (goodIn_of _ (by decide +kernel)) ggX9_needFirst_X9_goesOn
theorem dX9_needFirst_0 : decode cX9_needFirst 0 = .ok (.aload_n 0, 1) := by decide +kernel
theorem dX9_needFirst_1 : decode cX9_needFirst 1 = .ok (.getfield 7, 3) := by decide +kernel
theorem dX9_needFirst_4 : decode cX9_needFirst 4 = .ok (.aload_n 0, 1) := by decide +kernel
theorem dX9_needFirst_5 : decode cX9_needFirst 5 = .ok (.getfield 16, 3) := by decide +kernel
theorem dX9_needFirst_8 : decode cX9_needFirst 8 = .ok (.invokestatic 150, 3) := by decide +kernel
theorem dX9_needFirst_11 : decode cX9_needFirst 11 = .ok (.iconst 0, 1) := by decide +kernel
theorem dX9_needFirst_12 : decode cX9_needFirst 12 = .ok (.istore_n 3, 1) := by decide +kernel
theorem dX9_needFirst_13 : decode cX9_needFirst 13 = .ok (.iload_n 3, 1) := by decide +kernel
theorem dX9_needFirst_14 : decode cX9_needFirst 14 = .ok (.bipush 60, 2) := by decide +kernel
theorem dX9_needFirst_16 : decode cX9_needFirst 16 = .ok (.if_icmp .gt 25, 3) := by decide +kernel
theorem dX9_needFirst_19 : decode cX9_needFirst 19 = .ok (.aload_n 0, 1) := by decide +kernel
theorem dX9_needFirst_20 : decode cX9_needFirst 20 = .ok (.iload_n 1, 1) := by decide +kernel
theorem dX9_needFirst_21 : decode cX9_needFirst 21 = .ok (.iconst 1, 1) := by decide +kernel
theorem dX9_needFirst_22 : decode cX9_needFirst 22 = .ok (.invokevirtual 172, 3) := by decide +kernel
theorem dX9_needFirst_25 : decode cX9_needFirst 25 = .ok (.iload_n 2, 1) := by decide +kernel
theorem dX9_needFirst_26 : decode cX9_needFirst 26 = .ok (.if_icmp .eq 15, 3) := by decide +kernel
theorem dX9_needFirst_29 : decode cX9_needFirst 29 = .ok (.aload_n 0, 1) := by decide +kernel
theorem dX9_needFirst_30 : decode cX9_needFirst 30 = .ok (.invokevirtual 207, 3) := by decide +kernel
theorem dX9_needFirst_33 : decode cX9_needFirst 33 = .ok (.istore 4, 2) := by decide +kernel
theorem dX9_needFirst_35 : decode cX9_needFirst 35 = .ok (.iinc 3 1, 3) := by decide +kernel
theorem dX9_needFirst_38 : decode cX9_needFirst 38 = .ok (.goto (-25), 3) := by decide +kernel
theorem dX9_needFirst_41 : decode cX9_needFirst 41 = .ok (.aload_n 0, 1) := by decide +kernel
theorem dX9_needFirst_42 : decode cX9_needFirst 42 = .ok (.getfield 16, 3) := by decide +kernel
theorem dX9_needFirst_45 : decode cX9_needFirst 45 = .ok (.aload_n 0, 1) := by decide +kernel
theorem dX9_needFirst_46 : decode cX9_needFirst 46 = .ok (.getfield 7, 3) := by decide +kernel
theorem dX9_needFirst_49 : decode cX9_needFirst 49 = .ok (.invokestatic 150, 3) := by decide +kernel
theorem dX9_needFirst_52 : decode cX9_needFirst 52 = .ok (.iload_n 3, 1) := by decide +kernel
theorem dX9_needFirst_53 : decode cX9_needFirst 53 = .ok (.bipush 60, 2) := by decide +kernel
theorem dX9_needFirst_55 : decode cX9_needFirst 55 = .ok (.if_icmp .gt 7, 3) := by decide +kernel
theorem dX9_needFirst_58 : decode cX9_needFirst 58 = .ok (.iload_n 3, 1) := by decide +kernel
theorem dX9_needFirst_59 : decode cX9_needFirst 59 = .ok (.goto 5, 3) := by decide +kernel
theorem dX9_needFirst_62 : decode cX9_needFirst 62 = .ok (.bipush (-3), 2) := by decide +kernel
theorem dX9_needFirst_64 : decode cX9_needFirst 64 = .ok (.ireturn, 1) := by decide +kernel
set_option maxRecDepth 20000 in
theorem ggX9_eased_X9_isOne : GoodIn wsX9_eased wsX9_isOne := goodIn_r _ [5, 6, 54, 55, 56, 57, 58, 59, 60, 61, 62, 63, 64, 65, 66, 67, 68, 69, 70, 71, 72, 73, 74, 75, 76, 77, 78, 79, 80, 81, 82] (by decide +kernel) (by decide +kernel)
set_option maxRecDepth 20000 in
theorem gX9_eased_X9_isOne : GoodIn wsX9_eased (wsV RX9 130 RX9 yX9_isOne wsX9_isOne) := goodIn_app (goodIn_of _ (by decide +kernel)) ggX9_eased_X9_isOne
set_option maxRecDepth 20000 in
theorem ggX9_eased_X9_needFirst : GoodIn wsX9_eased wsX9_needFirst := goodIn_r _ [10, 6, 11, 12, 13, 4, 14, 15, 16, 17, 18, 19, 20, 21, 22, 23, 24, 25, 26, 27, 28, 29, 30, 31, 32, 33, 34, 35, 36, 37, 38, 39, 40, 41, 42, 43, 44, 45, 46, 47, 48, 49, 50, 51, 52, 53, 54, 55, 56, 57, 58, 59, 60, 61, 62, 63, 64, 65, 66, 67, 68, 69, 70, 71, 72, 73, 74, 75, 76, 77, 78, 79, 80, 81, 82] (by decide +kernel) (by decide +kernel)
set_option maxRecDepth 20000 in
theorem gX9_eased_X9_needFirst : GoodIn wsX9_eased (wsV RX9 228 RX9 yX9_needFirst wsX9_needFirst) := goodIn_app (goodIn_of _ (by decide +kernel)) ggX9_eased_X9_needFirst
theorem dX9_eased_0 : decode cX9_eased 0 = .ok (.aload_n 0, 1) := by decide +kernel
theorem dX9_eased_1 : decode cX9_eased 1 = .ok (.iload_n 1, 1) := by decide +kernel
theorem dX9_eased_2 : decode cX9_eased 2 = .ok (.invokevirtual 130, 3) := by decide +kernel
theorem dX9_eased_5 : decode cX9_eased 5 = .ok (.ifCond .eq 12, 3) := by decide +kernel
theorem dX9_eased_8 : decode cX9_eased 8 = .ok (.aload_n 0, 1) := by decide +kernel
theorem dX9_eased_9 : decode cX9_eased 9 = .ok (.iload_n 1, 1) := by decide +kernel
theorem dX9_eased_10 : decode cX9_eased 10 = .ok (.iconst 0, 1) := by decide +kernel
theorem dX9_eased_11 : decode cX9_eased 11 = .ok (.invokevirtual 228, 3) := by decide +kernel
theorem dX9_eased_14 : decode cX9_eased 14 = .ok (.goto 4, 3) := by decide +kernel
theorem dX9_eased_17 : decode cX9_eased 17 = .ok (.iconst (-1), 1) := by decide +kernel
theorem dX9_eased_18 : decode cX9_eased 18 = .ok (.ireturn, 1) := by decide +kernel
set_option maxRecDepth 20000 in
theorem ggX9_full_X9_isOne : GoodIn wsX9_full wsX9_isOne := goodIn_r _ [5, 6, 54, 55, 56, 57, 58, 59, 60, 61, 62, 63, 64, 65, 66, 67, 68, 69, 70, 71, 72, 73, 74, 75, 76, 77, 78, 79, 80, 81, 82] (by decide +kernel) (by decide +kernel)
set_option maxRecDepth 20000 in
theorem gX9_full_X9_isOne : GoodIn wsX9_full (wsV RX9 130 RX9 yX9_isOne wsX9_isOne) := goodIn_app (goodIn_of _ (by decide +kernel)) ggX9_full_X9_isOne
set_option maxRecDepth 20000 in
theorem ggX9_full_X9_needFirst : GoodIn wsX9_full wsX9_needFirst := goodIn_r _ [10, 6, 11, 12, 13, 4, 14, 15, 16, 17, 18, 19, 20, 21, 22, 23, 24, 25, 26, 27, 28, 29, 30, 31, 32, 33, 34, 35, 36, 37, 38, 39, 40, 41, 42, 43, 44, 45, 46, 47, 48, 49, 50, 51, 52, 53, 54, 55, 56, 57, 58, 59, 60, 61, 62, 63, 64, 65, 66, 67, 68, 69, 70, 71, 72, 73, 74, 75, 76, 77, 78, 79, 80, 81, 82] (by decide +kernel) (by decide +kernel)
set_option maxRecDepth 20000 in
theorem gX9_full_X9_needFirst : GoodIn wsX9_full (wsV RX9 228 RX9 yX9_needFirst wsX9_needFirst) := goodIn_app (goodIn_of _ (by decide +kernel)) ggX9_full_X9_needFirst
theorem dX9_full_0 : decode cX9_full 0 = .ok (.aload_n 0, 1) := by decide +kernel
theorem dX9_full_1 : decode cX9_full 1 = .ok (.iload_n 1, 1) := by decide +kernel
theorem dX9_full_2 : decode cX9_full 2 = .ok (.invokevirtual 130, 3) := by decide +kernel
theorem dX9_full_5 : decode cX9_full 5 = .ok (.ifCond .eq 13, 3) := by decide +kernel
theorem dX9_full_8 : decode cX9_full 8 = .ok (.aload_n 0, 1) := by decide +kernel
theorem dX9_full_9 : decode cX9_full 9 = .ok (.iload_n 1, 1) := by decide +kernel
theorem dX9_full_10 : decode cX9_full 10 = .ok (.bipush 99, 2) := by decide +kernel
theorem dX9_full_12 : decode cX9_full 12 = .ok (.invokevirtual 228, 3) := by decide +kernel
theorem dX9_full_15 : decode cX9_full 15 = .ok (.goto 4, 3) := by decide +kernel
theorem dX9_full_18 : decode cX9_full 18 = .ok (.iconst (-1), 1) := by decide +kernel
theorem dX9_full_19 : decode cX9_full 19 = .ok (.ireturn, 1) := by decide +kernel
set_option maxRecDepth 20000 in
theorem ggX9_hush_X9_copyRow : GoodIn wsX9_hush wsX9_copyRow := goodIn_r _ [6] (by decide +kernel) (by decide +kernel)
set_option maxRecDepth 20000 in
theorem gX9_hush_X9_copyRow : GoodIn wsX9_hush (va_wsS RX9 150 yX9_copyRow wsX9_copyRow) := goodIn_app (goodIn_of _ (by decide +kernel)) ggX9_hush_X9_copyRow
set_option maxRecDepth 20000 in
theorem ggX9_hush_X9_sumOf : GoodIn wsX9_hush wsX9_sumOf := goodIn_r _ [10, 1, 11, 12, 13, 5, 14, 50, 51, 52, 53, 54, 55, 56, 57, 58, 59, 60, 61, 62, 63, 64, 65, 66, 67, 68, 69, 70, 71, 72, 73, 74, 75, 76, 77, 78] (by decide +kernel) (by decide +kernel)
set_option maxRecDepth 20000 in
theorem gX9_hush_X9_sumOf : GoodIn wsX9_hush (wsV RX9 219 RX9 yX9_sumOf wsX9_sumOf) := goodIn_app (goodIn_of _ (by decide +kernel)) ggX9_hush_X9_sumOf
set_option maxRecDepth 20000 in
theorem ggX9_hush_X9_goesOn : GoodIn wsX9_hush wsX9_goesOn := goodIn_r _ [18, 1, 19, 20, 21, 22, 5, 23, 24, 25, 26, 27, 11, 12, 13, 14, 28, 29, 30, 31, 32, 33, 34, 35, 36, 37, 38, 39, 40, 41, 42, 43, 44, 45, 46, 47, 48, 49, 50, 51, 52, 53, 54, 55, 56, 57, 58, 59, 60, 61, 62, 63, 64, 65, 66, 67, 68, 69, 70, 71, 72, 73, 74, 75, 76, 77, 78] (by decide +kernel) (by decide +kernel)
set_option maxRecDepth 20000 in
theorem gX9_hush_X9_goesOn : GoodIn wsX9_hush (wsV RX9 207 RX9 yX9_goesOn wsX9_goesOn) := goodIn_app (goodIn_of _ (by decide +kernel)) ggX9_hush_X9_goesOn
theorem dX9_hush_0 : decode cX9_hush 0 = .ok (.aload_n 0, 1) := by decide +kernel
theorem dX9_hush_1 : decode cX9_hush 1 = .ok (.getfield 7, 3) := by decide +kernel
theorem dX9_hush_4 : decode cX9_hush 4 = .ok (.aload_n 0, 1) := by decide +kernel
theorem dX9_hush_5 : decode cX9_hush 5 = .ok (.getfield 16, 3) := by decide +kernel
theorem dX9_hush_8 : decode cX9_hush 8 = .ok (.invokestatic 150, 3) := by decide +kernel
theorem dX9_hush_11 : decode cX9_hush 11 = .ok (.iconst 0, 1) := by decide +kernel
theorem dX9_hush_12 : decode cX9_hush 12 = .ok (.istore_n 1, 1) := by decide +kernel
theorem dX9_hush_13 : decode cX9_hush 13 = .ok (.iload_n 1, 1) := by decide +kernel
theorem dX9_hush_14 : decode cX9_hush 14 = .ok (.bipush 60, 2) := by decide +kernel
theorem dX9_hush_16 : decode cX9_hush 16 = .ok (.if_icmp .gt 22, 3) := by decide +kernel
theorem dX9_hush_19 : decode cX9_hush 19 = .ok (.aload_n 0, 1) := by decide +kernel
theorem dX9_hush_20 : decode cX9_hush 20 = .ok (.iconst 1, 1) := by decide +kernel
theorem dX9_hush_21 : decode cX9_hush 21 = .ok (.invokevirtual 219, 3) := by decide +kernel
theorem dX9_hush_24 : decode cX9_hush 24 = .ok (.ifCond .le 14, 3) := by decide +kernel
theorem dX9_hush_27 : decode cX9_hush 27 = .ok (.aload_n 0, 1) := by decide +kernel
theorem dX9_hush_28 : decode cX9_hush 28 = .ok (.invokevirtual 207, 3) := by decide +kernel
theorem dX9_hush_31 : decode cX9_hush 31 = .ok (.istore_n 2, 1) := by decide +kernel
theorem dX9_hush_32 : decode cX9_hush 32 = .ok (.iinc 1 1, 3) := by decide +kernel
theorem dX9_hush_35 : decode cX9_hush 35 = .ok (.goto (-22), 3) := by decide +kernel
theorem dX9_hush_38 : decode cX9_hush 38 = .ok (.aload_n 0, 1) := by decide +kernel
theorem dX9_hush_39 : decode cX9_hush 39 = .ok (.getfield 16, 3) := by decide +kernel
theorem dX9_hush_42 : decode cX9_hush 42 = .ok (.aload_n 0, 1) := by decide +kernel
theorem dX9_hush_43 : decode cX9_hush 43 = .ok (.getfield 7, 3) := by decide +kernel
theorem dX9_hush_46 : decode cX9_hush 46 = .ok (.invokestatic 150, 3) := by decide +kernel
theorem dX9_hush_49 : decode cX9_hush 49 = .ok (.iload_n 1, 1) := by decide +kernel
theorem dX9_hush_50 : decode cX9_hush 50 = .ok (.bipush 60, 2) := by decide +kernel
theorem dX9_hush_52 : decode cX9_hush 52 = .ok (.if_icmp .gt 7, 3) := by decide +kernel
theorem dX9_hush_55 : decode cX9_hush 55 = .ok (.iload_n 1, 1) := by decide +kernel
theorem dX9_hush_56 : decode cX9_hush 56 = .ok (.goto 5, 3) := by decide +kernel
theorem dX9_hush_59 : decode cX9_hush 59 = .ok (.bipush (-3), 2) := by decide +kernel
theorem dX9_hush_61 : decode cX9_hush 61 = .ok (.ireturn, 1) := by decide +kernel
set_option maxRecDepth 20000 in
theorem ggX9_isShort_X9_isIn : GoodIn wsX9_isShort wsX9_isIn := goodIn_r _ [5] (by decide +kernel) (by decide +kernel)
set_option maxRecDepth 20000 in
theorem gX9_isShort_X9_isIn : GoodIn wsX9_isShort (va_wsS RX9 60 yX9_isIn wsX9_isIn) := goodIn_app (goodIn_of _ (by decide +kernel)) ggX9_isShort_X9_isIn
theorem dX9_isShort_0 : decode cX9_isShort 0 = .ok (.iload_n 0, 1) := by decide +kernel
theorem dX9_isShort_1 : decode cX9_isShort 1 = .ok (.i2l, 1) := by decide +kernel
theorem dX9_isShort_2 : decode cX9_isShort 2 = .ok (.lconst 1, 1) := by decide +kernel
theorem dX9_isShort_3 : decode cX9_isShort 3 = .ok (.ldc2_w 231, 3) := by decide +kernel
theorem dX9_isShort_6 : decode cX9_isShort 6 = .ok (.invokestatic 60, 3) := by decide +kernel
theorem dX9_isShort_9 : decode cX9_isShort 9 = .ok (.ireturn, 1) := by decide +kernel
set_option maxRecDepth 20000 in
theorem ggX9_partnerFor_X9_isOne : GoodIn wsX9_partnerFor wsX9_isOne := goodIn_r _ [7, 1, 70, 71, 72, 73, 74, 75, 76, 77, 78, 79, 80, 81, 82, 83, 84, 85, 86, 87, 88, 89, 90, 91, 92, 93, 94, 95, 96, 97, 98] (by decide +kernel) (by decide +kernel)
set_option maxRecDepth 20000 in
theorem gX9_partnerFor_X9_isOne : GoodIn wsX9_partnerFor (wsV RX9 130 RX9 yX9_isOne wsX9_isOne) := goodIn_app (goodIn_of _ (by decide +kernel)) ggX9_partnerFor_X9_isOne
set_option maxRecDepth 20000 in
theorem ggX9_partnerFor_X9_isShort : GoodIn wsX9_partnerFor wsX9_isShort := goodIn_r _ [10, 11, 12, 13, 6, 14] (by decide +kernel) (by decide +kernel)
set_option maxRecDepth 20000 in
theorem gX9_partnerFor_X9_isShort : GoodIn wsX9_partnerFor (va_wsS RX9 233 yX9_isShort wsX9_isShort) := goodIn_app (goodIn_of _ (by decide +kernel)) ggX9_partnerFor_X9_isShort
set_option maxRecDepth 20000 in
theorem ggX9_partnerFor_X9_copyRow : GoodIn wsX9_partnerFor wsX9_copyRow := goodIn_r _ [17] (by decide +kernel) (by decide +kernel)
set_option maxRecDepth 20000 in
theorem gX9_partnerFor_X9_copyRow : GoodIn wsX9_partnerFor (va_wsS RX9 150 yX9_copyRow wsX9_copyRow) := goodIn_app (goodIn_of _ (by decide +kernel)) ggX9_partnerFor_X9_copyRow
set_option maxRecDepth 20000 in
theorem ggX9_partnerFor_X9_soundBy : GoodIn wsX9_partnerFor wsX9_soundBy := goodIn_r _ [21, 1, 22, 15, 16, 6, 17, 23, 24, 25, 26, 27, 28, 29, 30, 31, 32, 33, 34, 35, 36, 37, 38, 39, 40, 41, 42, 43, 44, 45, 46, 47, 48, 49, 50, 51, 52, 53, 54, 55, 56, 57, 58, 59, 60, 61, 70, 71, 72, 73, 74, 75, 76, 77, 78, 79, 80, 81, 82, 83, 84, 85, 86, 87, 88, 89, 90, 91, 92, 93, 94, 95, 96, 97, 98] (by decide +kernel) (by decide +kernel)
set_option maxRecDepth 20000 in
theorem gX9_partnerFor_X9_soundBy : GoodIn wsX9_partnerFor (wsV RX9 225 RX9 yX9_soundBy wsX9_soundBy) := goodIn_app (goodIn_of _ (by decide +kernel)) ggX9_partnerFor_X9_soundBy
set_option maxRecDepth 20000 in
theorem ggX9_partnerFor_X9_pairs : GoodIn wsX9_partnerFor wsX9_pairs := goodIn_r _ [65, 1, 66, 67, 68, 6, 69, 36, 37, 38, 39, 70, 71, 72, 73, 74, 75, 76, 77, 78, 79, 80, 81, 82, 83, 84, 85, 86, 87, 88, 89, 90, 91, 92, 93, 94, 95, 96, 97, 98] (by decide +kernel) (by decide +kernel)
set_option maxRecDepth 20000 in
theorem gX9_partnerFor_X9_pairs : GoodIn wsX9_partnerFor (wsV RX9 133 RX9 yX9_pairs wsX9_pairs) := goodIn_app (goodIn_of _ (by decide +kernel)) ggX9_partnerFor_X9_pairs
set_option maxRecDepth 20000 in
theorem ggX9_partnerFor_X9_greatest : GoodIn wsX9_partnerFor wsX9_greatest := goodIn_r _ [42] (by decide +kernel) (by decide +kernel)
set_option maxRecDepth 20000 in
theorem gX9_partnerFor_X9_greatest : GoodIn wsX9_partnerFor (va_wsS RX9 175 yX9_greatest wsX9_greatest) := goodIn_app (goodIn_of _ (by decide +kernel)) ggX9_partnerFor_X9_greatest
theorem dX9_partnerFor_0 : decode cX9_partnerFor 0 = .ok (.aload_n 0, 1) := by decide +kernel
theorem dX9_partnerFor_1 : decode cX9_partnerFor 1 = .ok (.iload_n 1, 1) := by decide +kernel
theorem dX9_partnerFor_2 : decode cX9_partnerFor 2 = .ok (.invokevirtual 130, 3) := by decide +kernel
theorem dX9_partnerFor_5 : decode cX9_partnerFor 5 = .ok (.ifCond .eq 10, 3) := by decide +kernel
theorem dX9_partnerFor_8 : decode cX9_partnerFor 8 = .ok (.iload_n 2, 1) := by decide +kernel
theorem dX9_partnerFor_9 : decode cX9_partnerFor 9 = .ok (.invokestatic 233, 3) := by decide +kernel
theorem dX9_partnerFor_12 : decode cX9_partnerFor 12 = .ok (.ifCond .ne 5, 3) := by decide +kernel
theorem dX9_partnerFor_15 : decode cX9_partnerFor 15 = .ok (.iconst (-1), 1) := by decide +kernel
theorem dX9_partnerFor_16 : decode cX9_partnerFor 16 = .ok (.ireturn, 1) := by decide +kernel
theorem dX9_partnerFor_17 : decode cX9_partnerFor 17 = .ok (.aload_n 0, 1) := by decide +kernel
theorem dX9_partnerFor_18 : decode cX9_partnerFor 18 = .ok (.getfield 7, 3) := by decide +kernel
theorem dX9_partnerFor_21 : decode cX9_partnerFor 21 = .ok (.aload_n 0, 1) := by decide +kernel
theorem dX9_partnerFor_22 : decode cX9_partnerFor 22 = .ok (.getfield 25, 3) := by decide +kernel
theorem dX9_partnerFor_25 : decode cX9_partnerFor 25 = .ok (.invokestatic 150, 3) := by decide +kernel
theorem dX9_partnerFor_28 : decode cX9_partnerFor 28 = .ok (.aload_n 0, 1) := by decide +kernel
theorem dX9_partnerFor_29 : decode cX9_partnerFor 29 = .ok (.iload_n 2, 1) := by decide +kernel
theorem dX9_partnerFor_30 : decode cX9_partnerFor 30 = .ok (.invokevirtual 225, 3) := by decide +kernel
theorem dX9_partnerFor_33 : decode cX9_partnerFor 33 = .ok (.istore_n 3, 1) := by decide +kernel
theorem dX9_partnerFor_34 : decode cX9_partnerFor 34 = .ok (.bipush (-3), 2) := by decide +kernel
theorem dX9_partnerFor_36 : decode cX9_partnerFor 36 = .ok (.istore 4, 2) := by decide +kernel
theorem dX9_partnerFor_38 : decode cX9_partnerFor 38 = .ok (.iconst 0, 1) := by decide +kernel
theorem dX9_partnerFor_39 : decode cX9_partnerFor 39 = .ok (.istore 5, 2) := by decide +kernel
theorem dX9_partnerFor_41 : decode cX9_partnerFor 41 = .ok (.iload 5, 2) := by decide +kernel
theorem dX9_partnerFor_43 : decode cX9_partnerFor 43 = .ok (.aload_n 0, 1) := by decide +kernel
theorem dX9_partnerFor_44 : decode cX9_partnerFor 44 = .ok (.getfield 7, 3) := by decide +kernel
theorem dX9_partnerFor_47 : decode cX9_partnerFor 47 = .ok (.iconst 0, 1) := by decide +kernel
theorem dX9_partnerFor_48 : decode cX9_partnerFor 48 = .ok (.iaload, 1) := by decide +kernel
theorem dX9_partnerFor_49 : decode cX9_partnerFor 49 = .ok (.if_icmp .ge 62, 3) := by decide +kernel
theorem dX9_partnerFor_52 : decode cX9_partnerFor 52 = .ok (.iload 5, 2) := by decide +kernel
theorem dX9_partnerFor_54 : decode cX9_partnerFor 54 = .ok (.iload_n 1, 1) := by decide +kernel
theorem dX9_partnerFor_55 : decode cX9_partnerFor 55 = .ok (.if_icmp .eq 50, 3) := by decide +kernel
theorem dX9_partnerFor_58 : decode cX9_partnerFor 58 = .ok (.aload_n 0, 1) := by decide +kernel
theorem dX9_partnerFor_59 : decode cX9_partnerFor 59 = .ok (.iload_n 1, 1) := by decide +kernel
theorem dX9_partnerFor_60 : decode cX9_partnerFor 60 = .ok (.iload 5, 2) := by decide +kernel
theorem dX9_partnerFor_62 : decode cX9_partnerFor 62 = .ok (.invokevirtual 133, 3) := by decide +kernel
theorem dX9_partnerFor_65 : decode cX9_partnerFor 65 = .ok (.aload_n 0, 1) := by decide +kernel
theorem dX9_partnerFor_66 : decode cX9_partnerFor 66 = .ok (.iload_n 2, 1) := by decide +kernel
theorem dX9_partnerFor_67 : decode cX9_partnerFor 67 = .ok (.invokevirtual 225, 3) := by decide +kernel
theorem dX9_partnerFor_70 : decode cX9_partnerFor 70 = .ok (.istore 6, 2) := by decide +kernel
theorem dX9_partnerFor_72 : decode cX9_partnerFor 72 = .ok (.iload 6, 2) := by decide +kernel
theorem dX9_partnerFor_74 : decode cX9_partnerFor 74 = .ok (.iload_n 3, 1) := by decide +kernel
theorem dX9_partnerFor_75 : decode cX9_partnerFor 75 = .ok (.if_icmp .le 8, 3) := by decide +kernel
theorem dX9_partnerFor_78 : decode cX9_partnerFor 78 = .ok (.iload 5, 2) := by decide +kernel
theorem dX9_partnerFor_80 : decode cX9_partnerFor 80 = .ok (.goto 5, 3) := by decide +kernel
theorem dX9_partnerFor_83 : decode cX9_partnerFor 83 = .ok (.iload 4, 2) := by decide +kernel
theorem dX9_partnerFor_85 : decode cX9_partnerFor 85 = .ok (.istore 4, 2) := by decide +kernel
theorem dX9_partnerFor_87 : decode cX9_partnerFor 87 = .ok (.iload_n 3, 1) := by decide +kernel
theorem dX9_partnerFor_88 : decode cX9_partnerFor 88 = .ok (.iload 6, 2) := by decide +kernel
theorem dX9_partnerFor_90 : decode cX9_partnerFor 90 = .ok (.invokestatic 175, 3) := by decide +kernel
theorem dX9_partnerFor_93 : decode cX9_partnerFor 93 = .ok (.istore_n 3, 1) := by decide +kernel
theorem dX9_partnerFor_94 : decode cX9_partnerFor 94 = .ok (.aload_n 0, 1) := by decide +kernel
theorem dX9_partnerFor_95 : decode cX9_partnerFor 95 = .ok (.getfield 25, 3) := by decide +kernel
theorem dX9_partnerFor_98 : decode cX9_partnerFor 98 = .ok (.aload_n 0, 1) := by decide +kernel
theorem dX9_partnerFor_99 : decode cX9_partnerFor 99 = .ok (.getfield 7, 3) := by decide +kernel
theorem dX9_partnerFor_102 : decode cX9_partnerFor 102 = .ok (.invokestatic 150, 3) := by decide +kernel
theorem dX9_partnerFor_105 : decode cX9_partnerFor 105 = .ok (.iinc 5 1, 3) := by decide +kernel
theorem dX9_partnerFor_108 : decode cX9_partnerFor 108 = .ok (.goto (-67), 3) := by decide +kernel
theorem dX9_partnerFor_111 : decode cX9_partnerFor 111 = .ok (.iload 4, 2) := by decide +kernel
theorem dX9_partnerFor_113 : decode cX9_partnerFor 113 = .ok (.ireturn, 1) := by decide +kernel
set_option maxRecDepth 20000 in
theorem ggX9_kindFor_X9_isOne : GoodIn wsX9_kindFor wsX9_isOne := goodIn_r _ [6, 1, 61, 62, 63, 64, 65, 66, 67, 68, 69, 70, 71, 72, 73, 74, 75, 76, 77, 78, 79, 80, 81, 82, 83, 84, 85, 86, 87, 88, 89] (by decide +kernel) (by decide +kernel)
set_option maxRecDepth 20000 in
theorem gX9_kindFor_X9_isOne : GoodIn wsX9_kindFor (wsV RX9 130 RX9 yX9_isOne wsX9_isOne) := goodIn_app (goodIn_of _ (by decide +kernel)) ggX9_kindFor_X9_isOne
set_option maxRecDepth 20000 in
theorem ggX9_kindFor_X9_isShort : GoodIn wsX9_kindFor wsX9_isShort := goodIn_r _ [9, 10, 11, 12, 5, 13] (by decide +kernel) (by decide +kernel)
set_option maxRecDepth 20000 in
theorem gX9_kindFor_X9_isShort : GoodIn wsX9_kindFor (va_wsS RX9 233 yX9_isShort wsX9_isShort) := goodIn_app (goodIn_of _ (by decide +kernel)) ggX9_kindFor_X9_isShort
set_option maxRecDepth 20000 in
theorem ggX9_kindFor_X9_soundBy : GoodIn wsX9_kindFor wsX9_soundBy := goodIn_r _ [17, 1, 18, 19, 20, 5, 21, 22, 23, 24, 25, 26, 27, 28, 29, 30, 31, 32, 33, 34, 35, 36, 37, 38, 39, 40, 41, 42, 43, 44, 45, 46, 47, 48, 49, 50, 51, 52, 53, 54, 55, 56, 57, 58, 59, 60, 61, 62, 63, 64, 65, 66, 67, 68, 69, 70, 71, 72, 73, 74, 75, 76, 77, 78, 79, 80, 81, 82, 83, 84, 85, 86, 87, 88, 89] (by decide +kernel) (by decide +kernel)
set_option maxRecDepth 20000 in
theorem gX9_kindFor_X9_soundBy : GoodIn wsX9_kindFor (wsV RX9 225 RX9 yX9_soundBy wsX9_soundBy) := goodIn_app (goodIn_of _ (by decide +kernel)) ggX9_kindFor_X9_soundBy
set_option maxRecDepth 20000 in
theorem ggX9_kindFor_X9_greatest : GoodIn wsX9_kindFor wsX9_greatest := goodIn_r _ [41] (by decide +kernel) (by decide +kernel)
set_option maxRecDepth 20000 in
theorem gX9_kindFor_X9_greatest : GoodIn wsX9_kindFor (va_wsS RX9 175 yX9_greatest wsX9_greatest) := goodIn_app (goodIn_of _ (by decide +kernel)) ggX9_kindFor_X9_greatest
theorem dX9_kindFor_0 : decode cX9_kindFor 0 = .ok (.aload_n 0, 1) := by decide +kernel
theorem dX9_kindFor_1 : decode cX9_kindFor 1 = .ok (.iload_n 1, 1) := by decide +kernel
theorem dX9_kindFor_2 : decode cX9_kindFor 2 = .ok (.invokevirtual 130, 3) := by decide +kernel
theorem dX9_kindFor_5 : decode cX9_kindFor 5 = .ok (.ifCond .eq 10, 3) := by decide +kernel
theorem dX9_kindFor_8 : decode cX9_kindFor 8 = .ok (.iload_n 2, 1) := by decide +kernel
theorem dX9_kindFor_9 : decode cX9_kindFor 9 = .ok (.invokestatic 233, 3) := by decide +kernel
theorem dX9_kindFor_12 : decode cX9_kindFor 12 = .ok (.ifCond .ne 5, 3) := by decide +kernel
theorem dX9_kindFor_15 : decode cX9_kindFor 15 = .ok (.iconst (-1), 1) := by decide +kernel
theorem dX9_kindFor_16 : decode cX9_kindFor 16 = .ok (.ireturn, 1) := by decide +kernel
theorem dX9_kindFor_17 : decode cX9_kindFor 17 = .ok (.bipush 9, 2) := by decide +kernel
theorem dX9_kindFor_19 : decode cX9_kindFor 19 = .ok (.bipush 6, 2) := by decide +kernel
theorem dX9_kindFor_21 : decode cX9_kindFor 21 = .ok (.iload_n 1, 1) := by decide +kernel
theorem dX9_kindFor_22 : decode cX9_kindFor 22 = .ok (.imul, 1) := by decide +kernel
theorem dX9_kindFor_23 : decode cX9_kindFor 23 = .ok (.iadd, 1) := by decide +kernel
theorem dX9_kindFor_24 : decode cX9_kindFor 24 = .ok (.istore_n 3, 1) := by decide +kernel
theorem dX9_kindFor_25 : decode cX9_kindFor 25 = .ok (.aload_n 0, 1) := by decide +kernel
theorem dX9_kindFor_26 : decode cX9_kindFor 26 = .ok (.getfield 7, 3) := by decide +kernel
theorem dX9_kindFor_29 : decode cX9_kindFor 29 = .ok (.iload_n 3, 1) := by decide +kernel
theorem dX9_kindFor_30 : decode cX9_kindFor 30 = .ok (.iaload, 1) := by decide +kernel
theorem dX9_kindFor_31 : decode cX9_kindFor 31 = .ok (.istore 4, 2) := by decide +kernel
theorem dX9_kindFor_33 : decode cX9_kindFor 33 = .ok (.iconst 0, 1) := by decide +kernel
theorem dX9_kindFor_34 : decode cX9_kindFor 34 = .ok (.istore 5, 2) := by decide +kernel
theorem dX9_kindFor_36 : decode cX9_kindFor 36 = .ok (.iconst (-1), 1) := by decide +kernel
theorem dX9_kindFor_37 : decode cX9_kindFor 37 = .ok (.istore 6, 2) := by decide +kernel
theorem dX9_kindFor_39 : decode cX9_kindFor 39 = .ok (.iconst 0, 1) := by decide +kernel
theorem dX9_kindFor_40 : decode cX9_kindFor 40 = .ok (.istore 7, 2) := by decide +kernel
theorem dX9_kindFor_42 : decode cX9_kindFor 42 = .ok (.iload 7, 2) := by decide +kernel
theorem dX9_kindFor_44 : decode cX9_kindFor 44 = .ok (.iconst 5, 1) := by decide +kernel
theorem dX9_kindFor_45 : decode cX9_kindFor 45 = .ok (.if_icmp .gt 49, 3) := by decide +kernel
theorem dX9_kindFor_48 : decode cX9_kindFor 48 = .ok (.aload_n 0, 1) := by decide +kernel
theorem dX9_kindFor_49 : decode cX9_kindFor 49 = .ok (.getfield 7, 3) := by decide +kernel
theorem dX9_kindFor_52 : decode cX9_kindFor 52 = .ok (.iload_n 3, 1) := by decide +kernel
theorem dX9_kindFor_53 : decode cX9_kindFor 53 = .ok (.iload 7, 2) := by decide +kernel
theorem dX9_kindFor_55 : decode cX9_kindFor 55 = .ok (.iastore, 1) := by decide +kernel
theorem dX9_kindFor_56 : decode cX9_kindFor 56 = .ok (.aload_n 0, 1) := by decide +kernel
theorem dX9_kindFor_57 : decode cX9_kindFor 57 = .ok (.iload_n 2, 1) := by decide +kernel
theorem dX9_kindFor_58 : decode cX9_kindFor 58 = .ok (.invokevirtual 225, 3) := by decide +kernel
theorem dX9_kindFor_61 : decode cX9_kindFor 61 = .ok (.istore 8, 2) := by decide +kernel
theorem dX9_kindFor_63 : decode cX9_kindFor 63 = .ok (.iload 8, 2) := by decide +kernel
theorem dX9_kindFor_65 : decode cX9_kindFor 65 = .ok (.iload 6, 2) := by decide +kernel
theorem dX9_kindFor_67 : decode cX9_kindFor 67 = .ok (.if_icmp .le 8, 3) := by decide +kernel
theorem dX9_kindFor_70 : decode cX9_kindFor 70 = .ok (.iload 7, 2) := by decide +kernel
theorem dX9_kindFor_72 : decode cX9_kindFor 72 = .ok (.goto 5, 3) := by decide +kernel
theorem dX9_kindFor_75 : decode cX9_kindFor 75 = .ok (.iload 5, 2) := by decide +kernel
theorem dX9_kindFor_77 : decode cX9_kindFor 77 = .ok (.istore 5, 2) := by decide +kernel
theorem dX9_kindFor_79 : decode cX9_kindFor 79 = .ok (.iload 6, 2) := by decide +kernel
theorem dX9_kindFor_81 : decode cX9_kindFor 81 = .ok (.iload 8, 2) := by decide +kernel
theorem dX9_kindFor_83 : decode cX9_kindFor 83 = .ok (.invokestatic 175, 3) := by decide +kernel
theorem dX9_kindFor_86 : decode cX9_kindFor 86 = .ok (.istore 6, 2) := by decide +kernel
theorem dX9_kindFor_88 : decode cX9_kindFor 88 = .ok (.iinc 7 1, 3) := by decide +kernel
theorem dX9_kindFor_91 : decode cX9_kindFor 91 = .ok (.goto (-49), 3) := by decide +kernel
theorem dX9_kindFor_94 : decode cX9_kindFor 94 = .ok (.aload_n 0, 1) := by decide +kernel
theorem dX9_kindFor_95 : decode cX9_kindFor 95 = .ok (.getfield 7, 3) := by decide +kernel
theorem dX9_kindFor_98 : decode cX9_kindFor 98 = .ok (.iload_n 3, 1) := by decide +kernel
theorem dX9_kindFor_99 : decode cX9_kindFor 99 = .ok (.iload 4, 2) := by decide +kernel
theorem dX9_kindFor_101 : decode cX9_kindFor 101 = .ok (.iastore, 1) := by decide +kernel
theorem dX9_kindFor_102 : decode cX9_kindFor 102 = .ok (.iload 5, 2) := by decide +kernel
theorem dX9_kindFor_104 : decode cX9_kindFor 104 = .ok (.ireturn, 1) := by decide +kernel
set_option maxRecDepth 20000 in
theorem ggX9_voiceFor_X9_isOne : GoodIn wsX9_voiceFor wsX9_isOne := goodIn_r _ [7, 2, 62, 63, 64, 65, 66, 67, 68, 69, 70, 71, 72, 73, 74, 75, 76, 77, 78, 79, 80, 81, 82, 83, 84, 85, 86, 87, 88, 89, 90] (by decide +kernel) (by decide +kernel)
set_option maxRecDepth 20000 in
theorem gX9_voiceFor_X9_isOne : GoodIn wsX9_voiceFor (wsV RX9 130 RX9 yX9_isOne wsX9_isOne) := goodIn_app (goodIn_of _ (by decide +kernel)) ggX9_voiceFor_X9_isOne
set_option maxRecDepth 20000 in
theorem ggX9_voiceFor_X9_isShort : GoodIn wsX9_voiceFor wsX9_isShort := goodIn_r _ [10, 11, 12, 13, 6, 14] (by decide +kernel) (by decide +kernel)
set_option maxRecDepth 20000 in
theorem gX9_voiceFor_X9_isShort : GoodIn wsX9_voiceFor (va_wsS RX9 233 yX9_isShort wsX9_isShort) := goodIn_app (goodIn_of _ (by decide +kernel)) ggX9_voiceFor_X9_isShort
set_option maxRecDepth 20000 in
theorem ggX9_voiceFor_X9_isIn : GoodIn wsX9_voiceFor wsX9_isIn := goodIn_r _ [14] (by decide +kernel) (by decide +kernel)
set_option maxRecDepth 20000 in
theorem gX9_voiceFor_X9_isIn : GoodIn wsX9_voiceFor (va_wsS RX9 60 yX9_isIn wsX9_isIn) := goodIn_app (goodIn_of _ (by decide +kernel)) ggX9_voiceFor_X9_isIn
set_option maxRecDepth 20000 in
theorem ggX9_voiceFor_X9_soundBy : GoodIn wsX9_voiceFor wsX9_soundBy := goodIn_r _ [18, 2, 19, 20, 21, 6, 22, 23, 24, 25, 26, 27, 28, 29, 30, 31, 32, 33, 34, 35, 36, 37, 38, 39, 40, 41, 42, 43, 44, 45, 46, 47, 48, 49, 50, 51, 52, 53, 54, 55, 56, 57, 58, 59, 60, 61, 62, 63, 64, 65, 66, 67, 68, 69, 70, 71, 72, 73, 74, 75, 76, 77, 78, 79, 80, 81, 82, 83, 84, 85, 86, 87, 88, 89, 90] (by decide +kernel) (by decide +kernel)
set_option maxRecDepth 20000 in
theorem gX9_voiceFor_X9_soundBy : GoodIn wsX9_voiceFor (wsV RX9 225 RX9 yX9_soundBy wsX9_soundBy) := goodIn_app (goodIn_of _ (by decide +kernel)) ggX9_voiceFor_X9_soundBy
theorem dX9_voiceFor_0 : decode cX9_voiceFor 0 = .ok (.aload_n 0, 1) := by decide +kernel
theorem dX9_voiceFor_1 : decode cX9_voiceFor 1 = .ok (.iload_n 1, 1) := by decide +kernel
theorem dX9_voiceFor_2 : decode cX9_voiceFor 2 = .ok (.invokevirtual 130, 3) := by decide +kernel
theorem dX9_voiceFor_5 : decode cX9_voiceFor 5 = .ok (.ifCond .eq 22, 3) := by decide +kernel
theorem dX9_voiceFor_8 : decode cX9_voiceFor 8 = .ok (.iload_n 2, 1) := by decide +kernel
theorem dX9_voiceFor_9 : decode cX9_voiceFor 9 = .ok (.invokestatic 233, 3) := by decide +kernel
theorem dX9_voiceFor_12 : decode cX9_voiceFor 12 = .ok (.ifCond .eq 15, 3) := by decide +kernel
theorem dX9_voiceFor_15 : decode cX9_voiceFor 15 = .ok (.iload_n 3, 1) := by decide +kernel
theorem dX9_voiceFor_16 : decode cX9_voiceFor 16 = .ok (.i2l, 1) := by decide +kernel
theorem dX9_voiceFor_17 : decode cX9_voiceFor 17 = .ok (.lconst 0, 1) := by decide +kernel
theorem dX9_voiceFor_18 : decode cX9_voiceFor 18 = .ok (.ldc2_w 236, 3) := by decide +kernel
theorem dX9_voiceFor_21 : decode cX9_voiceFor 21 = .ok (.invokestatic 60, 3) := by decide +kernel
theorem dX9_voiceFor_24 : decode cX9_voiceFor 24 = .ok (.ifCond .ne 5, 3) := by decide +kernel
theorem dX9_voiceFor_27 : decode cX9_voiceFor 27 = .ok (.iconst (-1), 1) := by decide +kernel
theorem dX9_voiceFor_28 : decode cX9_voiceFor 28 = .ok (.ireturn, 1) := by decide +kernel
theorem dX9_voiceFor_29 : decode cX9_voiceFor 29 = .ok (.bipush 9, 2) := by decide +kernel
theorem dX9_voiceFor_31 : decode cX9_voiceFor 31 = .ok (.bipush 6, 2) := by decide +kernel
theorem dX9_voiceFor_33 : decode cX9_voiceFor 33 = .ok (.iload_n 1, 1) := by decide +kernel
theorem dX9_voiceFor_34 : decode cX9_voiceFor 34 = .ok (.imul, 1) := by decide +kernel
theorem dX9_voiceFor_35 : decode cX9_voiceFor 35 = .ok (.iadd, 1) := by decide +kernel
theorem dX9_voiceFor_36 : decode cX9_voiceFor 36 = .ok (.iconst 3, 1) := by decide +kernel
theorem dX9_voiceFor_37 : decode cX9_voiceFor 37 = .ok (.iadd, 1) := by decide +kernel
theorem dX9_voiceFor_38 : decode cX9_voiceFor 38 = .ok (.istore 4, 2) := by decide +kernel
theorem dX9_voiceFor_40 : decode cX9_voiceFor 40 = .ok (.aload_n 0, 1) := by decide +kernel
theorem dX9_voiceFor_41 : decode cX9_voiceFor 41 = .ok (.getfield 7, 3) := by decide +kernel
theorem dX9_voiceFor_44 : decode cX9_voiceFor 44 = .ok (.iload 4, 2) := by decide +kernel
theorem dX9_voiceFor_46 : decode cX9_voiceFor 46 = .ok (.iaload, 1) := by decide +kernel
theorem dX9_voiceFor_47 : decode cX9_voiceFor 47 = .ok (.istore 5, 2) := by decide +kernel
theorem dX9_voiceFor_49 : decode cX9_voiceFor 49 = .ok (.bipush (-3), 2) := by decide +kernel
theorem dX9_voiceFor_51 : decode cX9_voiceFor 51 = .ok (.istore 6, 2) := by decide +kernel
theorem dX9_voiceFor_53 : decode cX9_voiceFor 53 = .ok (.iconst 0, 1) := by decide +kernel
theorem dX9_voiceFor_54 : decode cX9_voiceFor 54 = .ok (.istore 7, 2) := by decide +kernel
theorem dX9_voiceFor_56 : decode cX9_voiceFor 56 = .ok (.iload 7, 2) := by decide +kernel
theorem dX9_voiceFor_58 : decode cX9_voiceFor 58 = .ok (.bipush 9, 2) := by decide +kernel
theorem dX9_voiceFor_60 : decode cX9_voiceFor 60 = .ok (.if_icmp .gt 41, 3) := by decide +kernel
theorem dX9_voiceFor_63 : decode cX9_voiceFor 63 = .ok (.iload 6, 2) := by decide +kernel
theorem dX9_voiceFor_65 : decode cX9_voiceFor 65 = .ok (.ifCond .ge 36, 3) := by decide +kernel
theorem dX9_voiceFor_68 : decode cX9_voiceFor 68 = .ok (.aload_n 0, 1) := by decide +kernel
theorem dX9_voiceFor_69 : decode cX9_voiceFor 69 = .ok (.getfield 7, 3) := by decide +kernel
theorem dX9_voiceFor_72 : decode cX9_voiceFor 72 = .ok (.iload 4, 2) := by decide +kernel
theorem dX9_voiceFor_74 : decode cX9_voiceFor 74 = .ok (.iload 7, 2) := by decide +kernel
theorem dX9_voiceFor_76 : decode cX9_voiceFor 76 = .ok (.iastore, 1) := by decide +kernel
theorem dX9_voiceFor_77 : decode cX9_voiceFor 77 = .ok (.aload_n 0, 1) := by decide +kernel
theorem dX9_voiceFor_78 : decode cX9_voiceFor 78 = .ok (.iload_n 2, 1) := by decide +kernel
theorem dX9_voiceFor_79 : decode cX9_voiceFor 79 = .ok (.invokevirtual 225, 3) := by decide +kernel
theorem dX9_voiceFor_82 : decode cX9_voiceFor 82 = .ok (.iload_n 3, 1) := by decide +kernel
theorem dX9_voiceFor_83 : decode cX9_voiceFor 83 = .ok (.if_icmp .lt 8, 3) := by decide +kernel
theorem dX9_voiceFor_86 : decode cX9_voiceFor 86 = .ok (.iload 7, 2) := by decide +kernel
theorem dX9_voiceFor_88 : decode cX9_voiceFor 88 = .ok (.goto 5, 3) := by decide +kernel
theorem dX9_voiceFor_91 : decode cX9_voiceFor 91 = .ok (.bipush (-3), 2) := by decide +kernel
theorem dX9_voiceFor_93 : decode cX9_voiceFor 93 = .ok (.istore 6, 2) := by decide +kernel
theorem dX9_voiceFor_95 : decode cX9_voiceFor 95 = .ok (.iinc 7 1, 3) := by decide +kernel
theorem dX9_voiceFor_98 : decode cX9_voiceFor 98 = .ok (.goto (-42), 3) := by decide +kernel
theorem dX9_voiceFor_101 : decode cX9_voiceFor 101 = .ok (.aload_n 0, 1) := by decide +kernel
theorem dX9_voiceFor_102 : decode cX9_voiceFor 102 = .ok (.getfield 7, 3) := by decide +kernel
theorem dX9_voiceFor_105 : decode cX9_voiceFor 105 = .ok (.iload 4, 2) := by decide +kernel
theorem dX9_voiceFor_107 : decode cX9_voiceFor 107 = .ok (.iload 5, 2) := by decide +kernel
theorem dX9_voiceFor_109 : decode cX9_voiceFor 109 = .ok (.iastore, 1) := by decide +kernel
theorem dX9_voiceFor_110 : decode cX9_voiceFor 110 = .ok (.iload 6, 2) := by decide +kernel
theorem dX9_voiceFor_112 : decode cX9_voiceFor 112 = .ok (.ireturn, 1) := by decide +kernel
set_option maxRecDepth 20000 in
theorem ggX9_ways_X9_soundBy : GoodIn wsX9_ways wsX9_soundBy := goodIn_r _ [8, 1, 9, 10, 11, 7, 12, 13, 14, 15, 16, 17, 18, 19, 20, 21, 22, 23, 24, 25, 26, 27, 28, 29, 30, 31, 32, 33, 34, 35, 36, 37, 38, 39, 40, 41, 42, 43, 44, 45, 46, 47, 48, 49, 50, 51, 63, 64, 65, 66, 67, 68, 69, 70, 71, 72, 73, 74, 75, 76, 77, 78, 79, 80, 81, 82, 83, 84, 85, 86, 87, 88, 89, 90, 91] (by decide +kernel) (by decide +kernel)
set_option maxRecDepth 20000 in
theorem gX9_ways_X9_soundBy : GoodIn wsX9_ways (wsV RX9 225 RX9 yX9_soundBy wsX9_soundBy) := goodIn_app (goodIn_of _ (by decide +kernel)) ggX9_ways_X9_soundBy
set_option maxRecDepth 20000 in
theorem ggX9_ways_X9_its : GoodIn wsX9_ways wsX9_its := goodIn_r _ [29, 1, 63, 64, 65, 66, 67, 68, 69, 70, 71, 72, 73, 74, 75, 76, 77, 78, 79, 80, 81, 82, 83, 84, 85, 86, 87, 88, 89, 90, 91] (by decide +kernel) (by decide +kernel)
set_option maxRecDepth 20000 in
theorem gX9_ways_X9_its : GoodIn wsX9_ways (wsV RX9 172 RX9 yX9_its wsX9_its) := goodIn_app (goodIn_of _ (by decide +kernel)) ggX9_ways_X9_its
set_option maxRecDepth 20000 in
theorem ggX9_ways_X9_greatest : GoodIn wsX9_ways wsX9_greatest := goodIn_r _ [32] (by decide +kernel) (by decide +kernel)
set_option maxRecDepth 20000 in
theorem gX9_ways_X9_greatest : GoodIn wsX9_ways (va_wsS RX9 175 yX9_greatest wsX9_greatest) := goodIn_app (goodIn_of _ (by decide +kernel)) ggX9_ways_X9_greatest
set_option maxRecDepth 20000 in
theorem ggX9_ways_X9_ways : GoodIn wsX9_ways wsX9_ways := goodIn_r _ [0, 1, 2, 3, 4, 5, 6, 7, 8, 9, 10, 11, 12, 13, 14, 15, 16, 17, 18, 19, 20, 21, 22, 23, 24, 25, 26, 27, 28, 29, 30, 31, 32, 33, 34, 35, 36, 37, 38, 39, 40, 41, 42, 43, 44, 45, 46, 47, 48, 49, 50, 51, 52, 53, 54, 55, 56, 57, 58, 59, 60, 61, 62, 63, 64, 65, 66, 67, 68, 69, 70, 71, 72, 73, 74, 75, 76, 77, 78, 79, 80, 81, 82, 83, 84, 85, 86, 87, 88, 89, 90, 91] (by decide +kernel) (by decide +kernel)
set_option maxRecDepth 20000 in
theorem gX9_ways_X9_ways : GoodIn wsX9_ways (wsV RX9 241 RX9 yX9_ways wsX9_ways) := goodIn_app (goodIn_of _ (by decide +kernel)) ggX9_ways_X9_ways
set_option maxRecDepth 20000 in
theorem ggX9_ways_X9_pairs : GoodIn wsX9_ways wsX9_pairs := goodIn_r _ [58, 1, 59, 60, 61, 7, 62, 26, 27, 28, 29, 63, 64, 65, 66, 67, 68, 69, 70, 71, 72, 73, 74, 75, 76, 77, 78, 79, 80, 81, 82, 83, 84, 85, 86, 87, 88, 89, 90, 91] (by decide +kernel) (by decide +kernel)
set_option maxRecDepth 20000 in
theorem gX9_ways_X9_pairs : GoodIn wsX9_ways (wsV RX9 133 RX9 yX9_pairs wsX9_pairs) := goodIn_app (goodIn_of _ (by decide +kernel)) ggX9_ways_X9_pairs
set_option maxRecDepth 20000 in
theorem ggX9_ways_X9_leaves : GoodIn wsX9_ways wsX9_leaves := goodIn_r _ [62, 1, 26, 27, 28, 7, 29, 63, 64, 65, 66, 67, 68, 69, 70, 71, 72, 73, 74, 75, 76, 77, 78, 79, 80, 81, 82, 83, 84, 85, 86, 87, 88, 89, 90, 91] (by decide +kernel) (by decide +kernel)
set_option maxRecDepth 20000 in
theorem gX9_ways_X9_leaves : GoodIn wsX9_ways (wsV RX9 189 RX9 yX9_leaves wsX9_leaves) := goodIn_app (goodIn_of _ (by decide +kernel)) ggX9_ways_X9_leaves
theorem dX9_ways_0 : decode cX9_ways 0 = .ok (.iload_n 1, 1) := by decide +kernel
theorem dX9_ways_1 : decode cX9_ways 1 = .ok (.aload_n 0, 1) := by decide +kernel
theorem dX9_ways_2 : decode cX9_ways 2 = .ok (.getfield 7, 3) := by decide +kernel
theorem dX9_ways_5 : decode cX9_ways 5 = .ok (.iconst 0, 1) := by decide +kernel
theorem dX9_ways_6 : decode cX9_ways 6 = .ok (.iaload, 1) := by decide +kernel
theorem dX9_ways_7 : decode cX9_ways 7 = .ok (.if_icmp .ne 67, 3) := by decide +kernel
theorem dX9_ways_10 : decode cX9_ways 10 = .ok (.aload_n 0, 1) := by decide +kernel
theorem dX9_ways_11 : decode cX9_ways 11 = .ok (.iload_n 3, 1) := by decide +kernel
theorem dX9_ways_12 : decode cX9_ways 12 = .ok (.invokevirtual 225, 3) := by decide +kernel
theorem dX9_ways_15 : decode cX9_ways 15 = .ok (.istore 4, 2) := by decide +kernel
theorem dX9_ways_17 : decode cX9_ways 17 = .ok (.iconst 0, 1) := by decide +kernel
theorem dX9_ways_18 : decode cX9_ways 18 = .ok (.istore 5, 2) := by decide +kernel
theorem dX9_ways_20 : decode cX9_ways 20 = .ok (.iload 5, 2) := by decide +kernel
theorem dX9_ways_22 : decode cX9_ways 22 = .ok (.aload_n 0, 1) := by decide +kernel
theorem dX9_ways_23 : decode cX9_ways 23 = .ok (.getfield 7, 3) := by decide +kernel
theorem dX9_ways_26 : decode cX9_ways 26 = .ok (.iconst 0, 1) := by decide +kernel
theorem dX9_ways_27 : decode cX9_ways 27 = .ok (.iaload, 1) := by decide +kernel
theorem dX9_ways_28 : decode cX9_ways 28 = .ok (.if_icmp .ge 32, 3) := by decide +kernel
theorem dX9_ways_31 : decode cX9_ways 31 = .ok (.iload 4, 2) := by decide +kernel
theorem dX9_ways_33 : decode cX9_ways 33 = .ok (.aload_n 0, 1) := by decide +kernel
theorem dX9_ways_34 : decode cX9_ways 34 = .ok (.getfield 238, 3) := by decide +kernel
theorem dX9_ways_37 : decode cX9_ways 37 = .ok (.if_icmp .le 23, 3) := by decide +kernel
theorem dX9_ways_40 : decode cX9_ways 40 = .ok (.aload_n 0, 1) := by decide +kernel
theorem dX9_ways_41 : decode cX9_ways 41 = .ok (.getfield 28, 3) := by decide +kernel
theorem dX9_ways_44 : decode cX9_ways 44 = .ok (.iload 5, 2) := by decide +kernel
theorem dX9_ways_46 : decode cX9_ways 46 = .ok (.aload_n 0, 1) := by decide +kernel
theorem dX9_ways_47 : decode cX9_ways 47 = .ok (.iload 5, 2) := by decide +kernel
theorem dX9_ways_49 : decode cX9_ways 49 = .ok (.iconst 4, 1) := by decide +kernel
theorem dX9_ways_50 : decode cX9_ways 50 = .ok (.invokevirtual 172, 3) := by decide +kernel
theorem dX9_ways_53 : decode cX9_ways 53 = .ok (.iastore, 1) := by decide +kernel
theorem dX9_ways_54 : decode cX9_ways 54 = .ok (.iinc 5 1, 3) := by decide +kernel
theorem dX9_ways_57 : decode cX9_ways 57 = .ok (.goto (-37), 3) := by decide +kernel
theorem dX9_ways_60 : decode cX9_ways 60 = .ok (.aload_n 0, 1) := by decide +kernel
theorem dX9_ways_61 : decode cX9_ways 61 = .ok (.aload_n 0, 1) := by decide +kernel
theorem dX9_ways_62 : decode cX9_ways 62 = .ok (.getfield 238, 3) := by decide +kernel
theorem dX9_ways_65 : decode cX9_ways 65 = .ok (.iload 4, 2) := by decide +kernel
theorem dX9_ways_67 : decode cX9_ways 67 = .ok (.invokestatic 175, 3) := by decide +kernel
theorem dX9_ways_70 : decode cX9_ways 70 = .ok (.putfield 238, 3) := by decide +kernel
theorem dX9_ways_73 : decode cX9_ways 73 = .ok (.return_, 1) := by decide +kernel
theorem dX9_ways_74 : decode cX9_ways 74 = .ok (.aload_n 0, 1) := by decide +kernel
theorem dX9_ways_75 : decode cX9_ways 75 = .ok (.iload_n 1, 1) := by decide +kernel
theorem dX9_ways_76 : decode cX9_ways 76 = .ok (.iconst 1, 1) := by decide +kernel
theorem dX9_ways_77 : decode cX9_ways 77 = .ok (.iadd, 1) := by decide +kernel
theorem dX9_ways_78 : decode cX9_ways 78 = .ok (.iload_n 2, 1) := by decide +kernel
theorem dX9_ways_79 : decode cX9_ways 79 = .ok (.iload_n 3, 1) := by decide +kernel
theorem dX9_ways_80 : decode cX9_ways 80 = .ok (.invokevirtual 241, 3) := by decide +kernel
theorem dX9_ways_83 : decode cX9_ways 83 = .ok (.iload_n 1, 1) := by decide +kernel
theorem dX9_ways_84 : decode cX9_ways 84 = .ok (.iconst 1, 1) := by decide +kernel
theorem dX9_ways_85 : decode cX9_ways 85 = .ok (.iadd, 1) := by decide +kernel
theorem dX9_ways_86 : decode cX9_ways 86 = .ok (.istore 4, 2) := by decide +kernel
theorem dX9_ways_88 : decode cX9_ways 88 = .ok (.iload 4, 2) := by decide +kernel
theorem dX9_ways_90 : decode cX9_ways 90 = .ok (.aload_n 0, 1) := by decide +kernel
theorem dX9_ways_91 : decode cX9_ways 91 = .ok (.getfield 7, 3) := by decide +kernel
theorem dX9_ways_94 : decode cX9_ways 94 = .ok (.iconst 0, 1) := by decide +kernel
theorem dX9_ways_95 : decode cX9_ways 95 = .ok (.iaload, 1) := by decide +kernel
theorem dX9_ways_96 : decode cX9_ways 96 = .ok (.if_icmp .ge 52, 3) := by decide +kernel
theorem dX9_ways_99 : decode cX9_ways 99 = .ok (.iload_n 2, 1) := by decide +kernel
theorem dX9_ways_100 : decode cX9_ways 100 = .ok (.iload_n 1, 1) := by decide +kernel
theorem dX9_ways_101 : decode cX9_ways 101 = .ok (.ishr, 1) := by decide +kernel
theorem dX9_ways_102 : decode cX9_ways 102 = .ok (.iconst 1, 1) := by decide +kernel
theorem dX9_ways_103 : decode cX9_ways 103 = .ok (.iand, 1) := by decide +kernel
theorem dX9_ways_104 : decode cX9_ways 104 = .ok (.ifCond .ne 44, 3) := by decide +kernel
theorem dX9_ways_107 : decode cX9_ways 107 = .ok (.iload_n 2, 1) := by decide +kernel
theorem dX9_ways_108 : decode cX9_ways 108 = .ok (.iload 4, 2) := by decide +kernel
theorem dX9_ways_110 : decode cX9_ways 110 = .ok (.ishr, 1) := by decide +kernel
theorem dX9_ways_111 : decode cX9_ways 111 = .ok (.iconst 1, 1) := by decide +kernel
theorem dX9_ways_112 : decode cX9_ways 112 = .ok (.iand, 1) := by decide +kernel
theorem dX9_ways_113 : decode cX9_ways 113 = .ok (.ifCond .ne 29, 3) := by decide +kernel
theorem dX9_ways_116 : decode cX9_ways 116 = .ok (.aload_n 0, 1) := by decide +kernel
theorem dX9_ways_117 : decode cX9_ways 117 = .ok (.iload_n 1, 1) := by decide +kernel
theorem dX9_ways_118 : decode cX9_ways 118 = .ok (.iload 4, 2) := by decide +kernel
theorem dX9_ways_120 : decode cX9_ways 120 = .ok (.invokevirtual 133, 3) := by decide +kernel
theorem dX9_ways_123 : decode cX9_ways 123 = .ok (.aload_n 0, 1) := by decide +kernel
theorem dX9_ways_124 : decode cX9_ways 124 = .ok (.iload_n 1, 1) := by decide +kernel
theorem dX9_ways_125 : decode cX9_ways 125 = .ok (.iconst 1, 1) := by decide +kernel
theorem dX9_ways_126 : decode cX9_ways 126 = .ok (.iadd, 1) := by decide +kernel
theorem dX9_ways_127 : decode cX9_ways 127 = .ok (.iload_n 2, 1) := by decide +kernel
theorem dX9_ways_128 : decode cX9_ways 128 = .ok (.iconst 1, 1) := by decide +kernel
theorem dX9_ways_129 : decode cX9_ways 129 = .ok (.iload 4, 2) := by decide +kernel
theorem dX9_ways_131 : decode cX9_ways 131 = .ok (.ishl, 1) := by decide +kernel
theorem dX9_ways_132 : decode cX9_ways 132 = .ok (.ior, 1) := by decide +kernel
theorem dX9_ways_133 : decode cX9_ways 133 = .ok (.iload_n 3, 1) := by decide +kernel
theorem dX9_ways_134 : decode cX9_ways 134 = .ok (.invokevirtual 241, 3) := by decide +kernel
theorem dX9_ways_137 : decode cX9_ways 137 = .ok (.aload_n 0, 1) := by decide +kernel
theorem dX9_ways_138 : decode cX9_ways 138 = .ok (.iload_n 1, 1) := by decide +kernel
theorem dX9_ways_139 : decode cX9_ways 139 = .ok (.invokevirtual 189, 3) := by decide +kernel
theorem dX9_ways_142 : decode cX9_ways 142 = .ok (.iinc 4 1, 3) := by decide +kernel
theorem dX9_ways_145 : decode cX9_ways 145 = .ok (.goto (-57), 3) := by decide +kernel
theorem dX9_ways_148 : decode cX9_ways 148 = .ok (.return_, 1) := by decide +kernel
set_option maxRecDepth 20000 in
theorem ggX9_findsBest_X9_copyRow : GoodIn wsX9_findsBest wsX9_copyRow := goodIn_r _ [7] (by decide +kernel) (by decide +kernel)
set_option maxRecDepth 20000 in
theorem gX9_findsBest_X9_copyRow : GoodIn wsX9_findsBest (va_wsS RX9 150 yX9_copyRow wsX9_copyRow) := goodIn_app (goodIn_of _ (by decide +kernel)) ggX9_findsBest_X9_copyRow
set_option maxRecDepth 20000 in
theorem ggX9_findsBest_X9_leaves : GoodIn wsX9_findsBest wsX9_leaves := goodIn_r _ [11, 1, 12, 13, 14, 6, 15, 65, 66, 67, 68, 69, 70, 71, 72, 73, 74, 75, 76, 77, 78, 79, 80, 81, 82, 83, 84, 85, 86, 87, 88, 89, 90, 91, 92, 93] (by decide +kernel) (by decide +kernel)
set_option maxRecDepth 20000 in
theorem gX9_findsBest_X9_leaves : GoodIn wsX9_findsBest (wsV RX9 189 RX9 yX9_leaves wsX9_leaves) := goodIn_app (goodIn_of _ (by decide +kernel)) ggX9_findsBest_X9_leaves
set_option maxRecDepth 20000 in
theorem ggX9_findsBest_X9_ways : GoodIn wsX9_findsBest wsX9_ways := goodIn_r _ [19, 1, 3, 20, 21, 22, 23, 6, 24, 25, 4, 5, 7, 26, 27, 28, 29, 30, 31, 32, 33, 34, 35, 36, 37, 38, 12, 13, 14, 15, 39, 40, 41, 42, 43, 44, 45, 46, 47, 48, 49, 50, 51, 52, 53, 54, 55, 56, 57, 58, 59, 60, 16, 17, 18, 61, 62, 63, 64, 8, 9, 10, 11, 65, 66, 67, 68, 69, 70, 71, 72, 73, 74, 75, 76, 77, 78, 79, 80, 81, 82, 83, 84, 85, 86, 87, 88, 89, 90, 91, 92, 93] (by decide +kernel) (by decide +kernel)
set_option maxRecDepth 20000 in
theorem gX9_findsBest_X9_ways : GoodIn wsX9_findsBest (wsV RX9 241 RX9 yX9_ways wsX9_ways) := goodIn_app (goodIn_of _ (by decide +kernel)) ggX9_findsBest_X9_ways
theorem dX9_findsBest_0 : decode cX9_findsBest 0 = .ok (.aload_n 0, 1) := by decide +kernel
theorem dX9_findsBest_1 : decode cX9_findsBest 1 = .ok (.getfield 7, 3) := by decide +kernel
theorem dX9_findsBest_4 : decode cX9_findsBest 4 = .ok (.aload_n 0, 1) := by decide +kernel
theorem dX9_findsBest_5 : decode cX9_findsBest 5 = .ok (.getfield 25, 3) := by decide +kernel
theorem dX9_findsBest_8 : decode cX9_findsBest 8 = .ok (.invokestatic 150, 3) := by decide +kernel
theorem dX9_findsBest_11 : decode cX9_findsBest 11 = .ok (.iconst 0, 1) := by decide +kernel
theorem dX9_findsBest_12 : decode cX9_findsBest 12 = .ok (.istore_n 2, 1) := by decide +kernel
theorem dX9_findsBest_13 : decode cX9_findsBest 13 = .ok (.iload_n 2, 1) := by decide +kernel
theorem dX9_findsBest_14 : decode cX9_findsBest 14 = .ok (.aload_n 0, 1) := by decide +kernel
theorem dX9_findsBest_15 : decode cX9_findsBest 15 = .ok (.getfield 7, 3) := by decide +kernel
theorem dX9_findsBest_18 : decode cX9_findsBest 18 = .ok (.iconst 0, 1) := by decide +kernel
theorem dX9_findsBest_19 : decode cX9_findsBest 19 = .ok (.iaload, 1) := by decide +kernel
theorem dX9_findsBest_20 : decode cX9_findsBest 20 = .ok (.if_icmp .ge 14, 3) := by decide +kernel
theorem dX9_findsBest_23 : decode cX9_findsBest 23 = .ok (.aload_n 0, 1) := by decide +kernel
theorem dX9_findsBest_24 : decode cX9_findsBest 24 = .ok (.iload_n 2, 1) := by decide +kernel
theorem dX9_findsBest_25 : decode cX9_findsBest 25 = .ok (.invokevirtual 189, 3) := by decide +kernel
theorem dX9_findsBest_28 : decode cX9_findsBest 28 = .ok (.iinc 2 1, 3) := by decide +kernel
theorem dX9_findsBest_31 : decode cX9_findsBest 31 = .ok (.goto (-18), 3) := by decide +kernel
theorem dX9_findsBest_34 : decode cX9_findsBest 34 = .ok (.aload_n 0, 1) := by decide +kernel
theorem dX9_findsBest_35 : decode cX9_findsBest 35 = .ok (.iconst (-1), 1) := by decide +kernel
theorem dX9_findsBest_36 : decode cX9_findsBest 36 = .ok (.putfield 238, 3) := by decide +kernel
theorem dX9_findsBest_39 : decode cX9_findsBest 39 = .ok (.aload_n 0, 1) := by decide +kernel
theorem dX9_findsBest_40 : decode cX9_findsBest 40 = .ok (.iconst 0, 1) := by decide +kernel
theorem dX9_findsBest_41 : decode cX9_findsBest 41 = .ok (.iconst 0, 1) := by decide +kernel
theorem dX9_findsBest_42 : decode cX9_findsBest 42 = .ok (.iload_n 1, 1) := by decide +kernel
theorem dX9_findsBest_43 : decode cX9_findsBest 43 = .ok (.invokevirtual 241, 3) := by decide +kernel
theorem dX9_findsBest_46 : decode cX9_findsBest 46 = .ok (.aload_n 0, 1) := by decide +kernel
theorem dX9_findsBest_47 : decode cX9_findsBest 47 = .ok (.getfield 25, 3) := by decide +kernel
theorem dX9_findsBest_50 : decode cX9_findsBest 50 = .ok (.aload_n 0, 1) := by decide +kernel
theorem dX9_findsBest_51 : decode cX9_findsBest 51 = .ok (.getfield 7, 3) := by decide +kernel
theorem dX9_findsBest_54 : decode cX9_findsBest 54 = .ok (.invokestatic 150, 3) := by decide +kernel
theorem dX9_findsBest_57 : decode cX9_findsBest 57 = .ok (.return_, 1) := by decide +kernel
set_option maxRecDepth 20000 in
theorem ggX9_isFew_X9_isIn : GoodIn wsX9_isFew wsX9_isIn := goodIn_r _ [5] (by decide +kernel) (by decide +kernel)
set_option maxRecDepth 20000 in
theorem gX9_isFew_X9_isIn : GoodIn wsX9_isFew (va_wsS RX9 60 yX9_isIn wsX9_isIn) := goodIn_app (goodIn_of _ (by decide +kernel)) ggX9_isFew_X9_isIn
theorem dX9_isFew_0 : decode cX9_isFew 0 = .ok (.iload_n 0, 1) := by decide +kernel
theorem dX9_isFew_1 : decode cX9_isFew 1 = .ok (.i2l, 1) := by decide +kernel
theorem dX9_isFew_2 : decode cX9_isFew 2 = .ok (.lconst 1, 1) := by decide +kernel
theorem dX9_isFew_3 : decode cX9_isFew 3 = .ok (.ldc2_w 170, 3) := by decide +kernel
theorem dX9_isFew_6 : decode cX9_isFew 6 = .ok (.invokestatic 60, 3) := by decide +kernel
theorem dX9_isFew_9 : decode cX9_isFew 9 = .ok (.ireturn, 1) := by decide +kernel
set_option maxRecDepth 20000 in
theorem ggX9_best_X9_isFew : GoodIn wsX9_best wsX9_isFew := goodIn_r _ [5, 6, 7, 8, 4, 9] (by decide +kernel) (by decide +kernel)
set_option maxRecDepth 20000 in
theorem gX9_best_X9_isFew : GoodIn wsX9_best (va_wsS RX9 245 yX9_isFew wsX9_isFew) := goodIn_app (goodIn_of _ (by decide +kernel)) ggX9_best_X9_isFew
set_option maxRecDepth 20000 in
theorem ggX9_best_X9_findsBest : GoodIn wsX9_best wsX9_findsBest := goodIn_r _ [13, 14, 15, 1, 16, 17, 4, 18, 19, 20, 21, 22, 23, 24, 25, 26, 27, 28, 29, 30, 31, 32, 33, 34, 35, 36, 37, 38, 39, 40, 41, 42, 43, 44, 45, 46, 47, 48, 49, 50, 51, 52, 53, 54, 55, 56, 57, 58, 59, 60, 61, 62, 63, 64, 65, 66, 67, 68, 69, 70, 71, 72, 73, 74, 75, 76, 77, 78, 79, 80, 81, 82, 83, 84, 85, 86, 87, 88, 89, 90, 91, 92, 93, 94, 95, 96, 97, 98, 99, 100, 101, 102, 103, 104] (by decide +kernel) (by decide +kernel)
set_option maxRecDepth 20000 in
theorem gX9_best_X9_findsBest : GoodIn wsX9_best (wsV RX9 248 RX9 yX9_findsBest wsX9_findsBest) := goodIn_app (goodIn_of _ (by decide +kernel)) ggX9_best_X9_findsBest
theorem dX9_best_0 : decode cX9_best 0 = .ok (.iload_n 1, 1) := by decide +kernel
theorem dX9_best_1 : decode cX9_best 1 = .ok (.invokestatic 245, 3) := by decide +kernel
theorem dX9_best_4 : decode cX9_best 4 = .ok (.ifCond .ne 5, 3) := by decide +kernel
theorem dX9_best_7 : decode cX9_best 7 = .ok (.iconst (-1), 1) := by decide +kernel
theorem dX9_best_8 : decode cX9_best 8 = .ok (.ireturn, 1) := by decide +kernel
theorem dX9_best_9 : decode cX9_best 9 = .ok (.aload_n 0, 1) := by decide +kernel
theorem dX9_best_10 : decode cX9_best 10 = .ok (.iload_n 1, 1) := by decide +kernel
theorem dX9_best_11 : decode cX9_best 11 = .ok (.invokevirtual 248, 3) := by decide +kernel
theorem dX9_best_14 : decode cX9_best 14 = .ok (.aload_n 0, 1) := by decide +kernel
theorem dX9_best_15 : decode cX9_best 15 = .ok (.getfield 238, 3) := by decide +kernel
theorem dX9_best_18 : decode cX9_best 18 = .ok (.ireturn, 1) := by decide +kernel
set_option maxRecDepth 20000 in
theorem ggX9_bestOf_X9_isFew : GoodIn wsX9_bestOf wsX9_isFew := goodIn_r _ [5, 6, 7, 8, 4, 9] (by decide +kernel) (by decide +kernel)
set_option maxRecDepth 20000 in
theorem gX9_bestOf_X9_isFew : GoodIn wsX9_bestOf (va_wsS RX9 245 yX9_isFew wsX9_isFew) := goodIn_app (goodIn_of _ (by decide +kernel)) ggX9_bestOf_X9_isFew
set_option maxRecDepth 20000 in
theorem ggX9_bestOf_X9_isOne : GoodIn wsX9_bestOf wsX9_isOne := goodIn_r _ [13, 14, 80, 81, 82, 83, 84, 85, 86, 87, 88, 89, 90, 91, 92, 93, 94, 95, 96, 97, 98, 99, 100, 101, 102, 103, 104, 105, 106, 107, 108] (by decide +kernel) (by decide +kernel)
set_option maxRecDepth 20000 in
theorem gX9_bestOf_X9_isOne : GoodIn wsX9_bestOf (wsV RX9 130 RX9 yX9_isOne wsX9_isOne) := goodIn_app (goodIn_of _ (by decide +kernel)) ggX9_bestOf_X9_isOne
set_option maxRecDepth 20000 in
theorem ggX9_bestOf_X9_findsBest : GoodIn wsX9_bestOf wsX9_findsBest := goodIn_r _ [18, 14, 19, 20, 21, 22, 4, 23, 24, 25, 26, 27, 28, 29, 30, 31, 32, 33, 34, 35, 1, 36, 37, 38, 39, 40, 41, 42, 43, 44, 45, 46, 47, 48, 49, 50, 51, 52, 53, 54, 55, 56, 57, 58, 59, 60, 61, 62, 63, 64, 65, 66, 67, 68, 69, 70, 71, 72, 73, 74, 75, 76, 77, 78, 79, 80, 81, 82, 83, 84, 85, 86, 87, 88, 89, 90, 91, 92, 93, 94, 95, 96, 97, 98, 99, 100, 101, 102, 103, 104, 105, 106, 107, 108] (by decide +kernel) (by decide +kernel)
set_option maxRecDepth 20000 in
theorem gX9_bestOf_X9_findsBest : GoodIn wsX9_bestOf (wsV RX9 248 RX9 yX9_findsBest wsX9_findsBest) := goodIn_app (goodIn_of _ (by decide +kernel)) ggX9_bestOf_X9_findsBest
theorem dX9_bestOf_0 : decode cX9_bestOf 0 = .ok (.iload_n 1, 1) := by decide +kernel
theorem dX9_bestOf_1 : decode cX9_bestOf 1 = .ok (.invokestatic 245, 3) := by decide +kernel
theorem dX9_bestOf_4 : decode cX9_bestOf 4 = .ok (.ifCond .eq 11, 3) := by decide +kernel
theorem dX9_bestOf_7 : decode cX9_bestOf 7 = .ok (.aload_n 0, 1) := by decide +kernel
theorem dX9_bestOf_8 : decode cX9_bestOf 8 = .ok (.iload_n 2, 1) := by decide +kernel
theorem dX9_bestOf_9 : decode cX9_bestOf 9 = .ok (.invokevirtual 130, 3) := by decide +kernel
theorem dX9_bestOf_12 : decode cX9_bestOf 12 = .ok (.ifCond .ne 5, 3) := by decide +kernel
theorem dX9_bestOf_15 : decode cX9_bestOf 15 = .ok (.iconst (-1), 1) := by decide +kernel
theorem dX9_bestOf_16 : decode cX9_bestOf 16 = .ok (.ireturn, 1) := by decide +kernel
theorem dX9_bestOf_17 : decode cX9_bestOf 17 = .ok (.aload_n 0, 1) := by decide +kernel
theorem dX9_bestOf_18 : decode cX9_bestOf 18 = .ok (.iload_n 1, 1) := by decide +kernel
theorem dX9_bestOf_19 : decode cX9_bestOf 19 = .ok (.invokevirtual 248, 3) := by decide +kernel
theorem dX9_bestOf_22 : decode cX9_bestOf 22 = .ok (.aload_n 0, 1) := by decide +kernel
theorem dX9_bestOf_23 : decode cX9_bestOf 23 = .ok (.getfield 28, 3) := by decide +kernel
theorem dX9_bestOf_26 : decode cX9_bestOf 26 = .ok (.iload_n 2, 1) := by decide +kernel
theorem dX9_bestOf_27 : decode cX9_bestOf 27 = .ok (.iaload, 1) := by decide +kernel
theorem dX9_bestOf_28 : decode cX9_bestOf 28 = .ok (.ireturn, 1) := by decide +kernel
theorem dX9_product_0 : decode cX9_product 0 = .ok (.lconst 1, 1) := by decide +kernel
theorem dX9_product_1 : decode cX9_product 1 = .ok (.lstore_n 1, 1) := by decide +kernel
theorem dX9_product_2 : decode cX9_product 2 = .ok (.iconst 2, 1) := by decide +kernel
theorem dX9_product_3 : decode cX9_product 3 = .ok (.istore_n 3, 1) := by decide +kernel
theorem dX9_product_4 : decode cX9_product 4 = .ok (.iload_n 3, 1) := by decide +kernel
theorem dX9_product_5 : decode cX9_product 5 = .ok (.iload_n 0, 1) := by decide +kernel
theorem dX9_product_6 : decode cX9_product 6 = .ok (.if_icmp .gt 14, 3) := by decide +kernel
theorem dX9_product_9 : decode cX9_product 9 = .ok (.lload_n 1, 1) := by decide +kernel
theorem dX9_product_10 : decode cX9_product 10 = .ok (.iload_n 3, 1) := by decide +kernel
theorem dX9_product_11 : decode cX9_product 11 = .ok (.i2l, 1) := by decide +kernel
theorem dX9_product_12 : decode cX9_product 12 = .ok (.lmul, 1) := by decide +kernel
theorem dX9_product_13 : decode cX9_product 13 = .ok (.lstore_n 1, 1) := by decide +kernel
theorem dX9_product_14 : decode cX9_product 14 = .ok (.iinc 3 1, 3) := by decide +kernel
theorem dX9_product_17 : decode cX9_product 17 = .ok (.goto (-13), 3) := by decide +kernel
theorem dX9_product_20 : decode cX9_product 20 = .ok (.lload_n 1, 1) := by decide +kernel
theorem dX9_product_21 : decode cX9_product 21 = .ok (.lreturn, 1) := by decide +kernel
theorem dX9_partOf_0 : decode cX9_partOf 0 = .ok (.lload_n 2, 1) := by decide +kernel
theorem dX9_partOf_1 : decode cX9_partOf 1 = .ok (.lstore 5, 2) := by decide +kernel
theorem dX9_partOf_3 : decode cX9_partOf 3 = .ok (.lload_n 0, 1) := by decide +kernel
theorem dX9_partOf_4 : decode cX9_partOf 4 = .ok (.lstore 7, 2) := by decide +kernel
theorem dX9_partOf_6 : decode cX9_partOf 6 = .ok (.lload 7, 2) := by decide +kernel
theorem dX9_partOf_8 : decode cX9_partOf 8 = .ok (.lconst 0, 1) := by decide +kernel
theorem dX9_partOf_9 : decode cX9_partOf 9 = .ok (.lcmp, 1) := by decide +kernel
theorem dX9_partOf_10 : decode cX9_partOf 10 = .ok (.ifCond .eq 21, 3) := by decide +kernel
theorem dX9_partOf_13 : decode cX9_partOf 13 = .ok (.lload 5, 2) := by decide +kernel
theorem dX9_partOf_15 : decode cX9_partOf 15 = .ok (.lload 7, 2) := by decide +kernel
theorem dX9_partOf_17 : decode cX9_partOf 17 = .ok (.lrem, 1) := by decide +kernel
theorem dX9_partOf_18 : decode cX9_partOf 18 = .ok (.lstore 9, 2) := by decide +kernel
theorem dX9_partOf_20 : decode cX9_partOf 20 = .ok (.lload 7, 2) := by decide +kernel
theorem dX9_partOf_22 : decode cX9_partOf 22 = .ok (.lstore 5, 2) := by decide +kernel
theorem dX9_partOf_24 : decode cX9_partOf 24 = .ok (.lload 9, 2) := by decide +kernel
theorem dX9_partOf_26 : decode cX9_partOf 26 = .ok (.lstore 7, 2) := by decide +kernel
theorem dX9_partOf_28 : decode cX9_partOf 28 = .ok (.goto (-22), 3) := by decide +kernel
theorem dX9_partOf_31 : decode cX9_partOf 31 = .ok (.iload 4, 2) := by decide +kernel
theorem dX9_partOf_33 : decode cX9_partOf 33 = .ok (.ifCond .ne 10, 3) := by decide +kernel
theorem dX9_partOf_36 : decode cX9_partOf 36 = .ok (.lload_n 0, 1) := by decide +kernel
theorem dX9_partOf_37 : decode cX9_partOf 37 = .ok (.lload 5, 2) := by decide +kernel
theorem dX9_partOf_39 : decode cX9_partOf 39 = .ok (.ldiv, 1) := by decide +kernel
theorem dX9_partOf_40 : decode cX9_partOf 40 = .ok (.goto 7, 3) := by decide +kernel
theorem dX9_partOf_43 : decode cX9_partOf 43 = .ok (.lload_n 2, 1) := by decide +kernel
theorem dX9_partOf_44 : decode cX9_partOf 44 = .ok (.lload 5, 2) := by decide +kernel
theorem dX9_partOf_46 : decode cX9_partOf 46 = .ok (.ldiv, 1) := by decide +kernel
theorem dX9_partOf_47 : decode cX9_partOf 47 = .ok (.lreturn, 1) := by decide +kernel
set_option maxRecDepth 20000 in
theorem ggX9_isTold_X9_copyRow : GoodIn wsX9_isTold wsX9_copyRow := goodIn_r _ [8] (by decide +kernel) (by decide +kernel)
set_option maxRecDepth 20000 in
theorem gX9_isTold_X9_copyRow : GoodIn wsX9_isTold (va_wsS RX9 150 yX9_copyRow wsX9_copyRow) := goodIn_app (goodIn_of _ (by decide +kernel)) ggX9_isTold_X9_copyRow
set_option maxRecDepth 20000 in
theorem ggX9_isTold_X9_goesOn : GoodIn wsX9_isTold wsX9_goesOn := goodIn_r _ [12, 1, 13, 14, 15, 16, 7, 17, 18, 19, 20, 21, 22, 23, 24, 25, 26, 27, 28, 29, 30, 31, 32, 33, 34, 35, 36, 37, 38, 39, 40, 41, 42, 43, 44, 45, 46, 47, 48, 49, 50, 51, 52, 53, 54, 55, 56, 57, 58, 59, 60, 61, 62, 63, 64, 65, 66, 67, 68, 69, 70, 71, 72, 73, 74, 75, 76] (by decide +kernel) (by decide +kernel)
set_option maxRecDepth 20000 in
theorem gX9_isTold_X9_goesOn : GoodIn wsX9_isTold (wsV RX9 207 RX9 yX9_goesOn wsX9_goesOn) := goodIn_app (goodIn_of _ (by decide +kernel)) ggX9_isTold_X9_goesOn
set_option maxRecDepth 20000 in
theorem ggX9_isTold_X9_its : GoodIn wsX9_isTold wsX9_its := goodIn_r _ [25, 1, 48, 49, 50, 51, 52, 53, 54, 55, 56, 57, 58, 59, 60, 61, 62, 63, 64, 65, 66, 67, 68, 69, 70, 71, 72, 73, 74, 75, 76] (by decide +kernel) (by decide +kernel)
set_option maxRecDepth 20000 in
theorem gX9_isTold_X9_its : GoodIn wsX9_isTold (wsV RX9 172 RX9 yX9_its wsX9_its) := goodIn_app (goodIn_of _ (by decide +kernel)) ggX9_isTold_X9_its
theorem dX9_isTold_0 : decode cX9_isTold 0 = .ok (.aload_n 0, 1) := by decide +kernel
theorem dX9_isTold_1 : decode cX9_isTold 1 = .ok (.getfield 7, 3) := by decide +kernel
theorem dX9_isTold_4 : decode cX9_isTold 4 = .ok (.aload_n 0, 1) := by decide +kernel
theorem dX9_isTold_5 : decode cX9_isTold 5 = .ok (.getfield 16, 3) := by decide +kernel
theorem dX9_isTold_8 : decode cX9_isTold 8 = .ok (.invokestatic 150, 3) := by decide +kernel
theorem dX9_isTold_11 : decode cX9_isTold 11 = .ok (.iconst 1, 1) := by decide +kernel
theorem dX9_isTold_12 : decode cX9_isTold 12 = .ok (.istore_n 3, 1) := by decide +kernel
theorem dX9_isTold_13 : decode cX9_isTold 13 = .ok (.iconst 0, 1) := by decide +kernel
theorem dX9_isTold_14 : decode cX9_isTold 14 = .ok (.istore 4, 2) := by decide +kernel
theorem dX9_isTold_16 : decode cX9_isTold 16 = .ok (.iload 4, 2) := by decide +kernel
theorem dX9_isTold_18 : decode cX9_isTold 18 = .ok (.aload_n 0, 1) := by decide +kernel
theorem dX9_isTold_19 : decode cX9_isTold 19 = .ok (.getfield 37, 3) := by decide +kernel
theorem dX9_isTold_22 : decode cX9_isTold 22 = .ok (.iload_n 1, 1) := by decide +kernel
theorem dX9_isTold_23 : decode cX9_isTold 23 = .ok (.iaload, 1) := by decide +kernel
theorem dX9_isTold_24 : decode cX9_isTold 24 = .ok (.if_icmp .ge 62, 3) := by decide +kernel
theorem dX9_isTold_27 : decode cX9_isTold 27 = .ok (.iload_n 3, 1) := by decide +kernel
theorem dX9_isTold_28 : decode cX9_isTold 28 = .ok (.ifCond .eq 58, 3) := by decide +kernel
theorem dX9_isTold_31 : decode cX9_isTold 31 = .ok (.aload_n 0, 1) := by decide +kernel
theorem dX9_isTold_32 : decode cX9_isTold 32 = .ok (.invokevirtual 207, 3) := by decide +kernel
theorem dX9_isTold_35 : decode cX9_isTold 35 = .ok (.istore 5, 2) := by decide +kernel
theorem dX9_isTold_37 : decode cX9_isTold 37 = .ok (.aload_n 0, 1) := by decide +kernel
theorem dX9_isTold_38 : decode cX9_isTold 38 = .ok (.getfield 40, 3) := by decide +kernel
theorem dX9_isTold_41 : decode cX9_isTold 41 = .ok (.bipush 40, 2) := by decide +kernel
theorem dX9_isTold_43 : decode cX9_isTold 43 = .ok (.iload_n 1, 1) := by decide +kernel
theorem dX9_isTold_44 : decode cX9_isTold 44 = .ok (.imul, 1) := by decide +kernel
theorem dX9_isTold_45 : decode cX9_isTold 45 = .ok (.iload 4, 2) := by decide +kernel
theorem dX9_isTold_47 : decode cX9_isTold 47 = .ok (.iadd, 1) := by decide +kernel
theorem dX9_isTold_48 : decode cX9_isTold 48 = .ok (.iaload, 1) := by decide +kernel
theorem dX9_isTold_49 : decode cX9_isTold 49 = .ok (.iconst (-1), 1) := by decide +kernel
theorem dX9_isTold_50 : decode cX9_isTold 50 = .ok (.if_icmp .eq 24, 3) := by decide +kernel
theorem dX9_isTold_53 : decode cX9_isTold 53 = .ok (.aload_n 0, 1) := by decide +kernel
theorem dX9_isTold_54 : decode cX9_isTold 54 = .ok (.getfield 40, 3) := by decide +kernel
theorem dX9_isTold_57 : decode cX9_isTold 57 = .ok (.bipush 40, 2) := by decide +kernel
theorem dX9_isTold_59 : decode cX9_isTold 59 = .ok (.iload_n 1, 1) := by decide +kernel
theorem dX9_isTold_60 : decode cX9_isTold 60 = .ok (.imul, 1) := by decide +kernel
theorem dX9_isTold_61 : decode cX9_isTold 61 = .ok (.iload 4, 2) := by decide +kernel
theorem dX9_isTold_63 : decode cX9_isTold 63 = .ok (.iadd, 1) := by decide +kernel
theorem dX9_isTold_64 : decode cX9_isTold 64 = .ok (.iaload, 1) := by decide +kernel
theorem dX9_isTold_65 : decode cX9_isTold 65 = .ok (.aload_n 0, 1) := by decide +kernel
theorem dX9_isTold_66 : decode cX9_isTold 66 = .ok (.iload_n 2, 1) := by decide +kernel
theorem dX9_isTold_67 : decode cX9_isTold 67 = .ok (.iconst 1, 1) := by decide +kernel
theorem dX9_isTold_68 : decode cX9_isTold 68 = .ok (.invokevirtual 172, 3) := by decide +kernel
theorem dX9_isTold_71 : decode cX9_isTold 71 = .ok (.if_icmp .ne 7, 3) := by decide +kernel
theorem dX9_isTold_74 : decode cX9_isTold 74 = .ok (.iconst 1, 1) := by decide +kernel
theorem dX9_isTold_75 : decode cX9_isTold 75 = .ok (.goto 4, 3) := by decide +kernel
theorem dX9_isTold_78 : decode cX9_isTold 78 = .ok (.iconst 0, 1) := by decide +kernel
theorem dX9_isTold_79 : decode cX9_isTold 79 = .ok (.istore_n 3, 1) := by decide +kernel
theorem dX9_isTold_80 : decode cX9_isTold 80 = .ok (.iinc 4 1, 3) := by decide +kernel
theorem dX9_isTold_83 : decode cX9_isTold 83 = .ok (.goto (-67), 3) := by decide +kernel
theorem dX9_isTold_86 : decode cX9_isTold 86 = .ok (.aload_n 0, 1) := by decide +kernel
theorem dX9_isTold_87 : decode cX9_isTold 87 = .ok (.getfield 16, 3) := by decide +kernel
theorem dX9_isTold_90 : decode cX9_isTold 90 = .ok (.aload_n 0, 1) := by decide +kernel
theorem dX9_isTold_91 : decode cX9_isTold 91 = .ok (.getfield 7, 3) := by decide +kernel
theorem dX9_isTold_94 : decode cX9_isTold 94 = .ok (.invokestatic 150, 3) := by decide +kernel
theorem dX9_isTold_97 : decode cX9_isTold 97 = .ok (.iload_n 3, 1) := by decide +kernel
theorem dX9_isTold_98 : decode cX9_isTold 98 = .ok (.ireturn, 1) := by decide +kernel
set_option maxRecDepth 20000 in
theorem ggX9_fits_X9_isSheet : GoodIn wsX9_fits wsX9_isSheet := goodIn_r _ [6, 7, 8, 9, 5, 10] (by decide +kernel) (by decide +kernel)
set_option maxRecDepth 20000 in
theorem gX9_fits_X9_isSheet : GoodIn wsX9_fits (va_wsS RX9 251 yX9_isSheet wsX9_isSheet) := goodIn_app (goodIn_of _ (by decide +kernel)) ggX9_fits_X9_isSheet
set_option maxRecDepth 20000 in
theorem ggX9_fits_X9_isOne : GoodIn wsX9_fits wsX9_isOne := goodIn_r _ [14, 2, 64, 65, 66, 67, 68, 69, 70, 71, 72, 73, 74, 75, 76, 77, 78, 79, 80, 81, 82, 83, 84, 85, 86, 87, 88, 89, 90, 91, 92] (by decide +kernel) (by decide +kernel)
set_option maxRecDepth 20000 in
theorem gX9_fits_X9_isOne : GoodIn wsX9_fits (wsV RX9 130 RX9 yX9_isOne wsX9_isOne) := goodIn_app (goodIn_of _ (by decide +kernel)) ggX9_fits_X9_isOne
set_option maxRecDepth 20000 in
theorem ggX9_fits_X9_isIn : GoodIn wsX9_fits wsX9_isIn := goodIn_r _ [10] (by decide +kernel) (by decide +kernel)
set_option maxRecDepth 20000 in
theorem gX9_fits_X9_isIn : GoodIn wsX9_fits (va_wsS RX9 60 yX9_isIn wsX9_isIn) := goodIn_app (goodIn_of _ (by decide +kernel)) ggX9_fits_X9_isIn
set_option maxRecDepth 20000 in
theorem ggX9_fits_X9_isTold : GoodIn wsX9_fits wsX9_isTold := goodIn_r _ [18, 2, 19, 20, 21, 22, 23, 5, 24, 25, 26, 27, 28, 29, 30, 31, 32, 33, 34, 35, 36, 37, 38, 39, 40, 41, 42, 43, 44, 45, 46, 47, 48, 49, 50, 51, 52, 53, 54, 55, 56, 57, 58, 59, 60, 61, 62, 63, 64, 65, 66, 67, 68, 69, 70, 71, 72, 73, 74, 75, 76, 77, 78, 79, 80, 81, 82, 83, 84, 85, 86, 87, 88, 89, 90, 91, 92] (by decide +kernel) (by decide +kernel)
set_option maxRecDepth 20000 in
theorem gX9_fits_X9_isTold : GoodIn wsX9_fits (wsV RX9 254 RX9 yX9_isTold wsX9_isTold) := goodIn_app (goodIn_of _ (by decide +kernel)) ggX9_fits_X9_isTold
theorem dX9_fits_0 : decode cX9_fits 0 = .ok (.iload_n 1, 1) := by decide +kernel
theorem dX9_fits_1 : decode cX9_fits 1 = .ok (.invokestatic 251, 3) := by decide +kernel
theorem dX9_fits_4 : decode cX9_fits 4 = .ok (.ifCond .eq 21, 3) := by decide +kernel
theorem dX9_fits_7 : decode cX9_fits 7 = .ok (.aload_n 0, 1) := by decide +kernel
theorem dX9_fits_8 : decode cX9_fits 8 = .ok (.iload_n 2, 1) := by decide +kernel
theorem dX9_fits_9 : decode cX9_fits 9 = .ok (.invokevirtual 130, 3) := by decide +kernel
theorem dX9_fits_12 : decode cX9_fits 12 = .ok (.ifCond .eq 13, 3) := by decide +kernel
theorem dX9_fits_15 : decode cX9_fits 15 = .ok (.iload_n 3, 1) := by decide +kernel
theorem dX9_fits_16 : decode cX9_fits 16 = .ok (.i2l, 1) := by decide +kernel
theorem dX9_fits_17 : decode cX9_fits 17 = .ok (.lconst 0, 1) := by decide +kernel
theorem dX9_fits_18 : decode cX9_fits 18 = .ok (.lconst 1, 1) := by decide +kernel
theorem dX9_fits_19 : decode cX9_fits 19 = .ok (.invokestatic 60, 3) := by decide +kernel
theorem dX9_fits_22 : decode cX9_fits 22 = .ok (.ifCond .ne 5, 3) := by decide +kernel
theorem dX9_fits_25 : decode cX9_fits 25 = .ok (.iconst (-1), 1) := by decide +kernel
theorem dX9_fits_26 : decode cX9_fits 26 = .ok (.ireturn, 1) := by decide +kernel
theorem dX9_fits_27 : decode cX9_fits 27 = .ok (.aload_n 0, 1) := by decide +kernel
theorem dX9_fits_28 : decode cX9_fits 28 = .ok (.getfield 34, 3) := by decide +kernel
theorem dX9_fits_31 : decode cX9_fits 31 = .ok (.iload_n 1, 1) := by decide +kernel
theorem dX9_fits_32 : decode cX9_fits 32 = .ok (.iaload, 1) := by decide +kernel
theorem dX9_fits_33 : decode cX9_fits 33 = .ok (.ifCond .ge 6, 3) := by decide +kernel
theorem dX9_fits_36 : decode cX9_fits 36 = .ok (.bipush (-11), 2) := by decide +kernel
theorem dX9_fits_38 : decode cX9_fits 38 = .ok (.ireturn, 1) := by decide +kernel
theorem dX9_fits_39 : decode cX9_fits 39 = .ok (.bipush 9, 2) := by decide +kernel
theorem dX9_fits_41 : decode cX9_fits 41 = .ok (.bipush 6, 2) := by decide +kernel
theorem dX9_fits_43 : decode cX9_fits 43 = .ok (.iload_n 2, 1) := by decide +kernel
theorem dX9_fits_44 : decode cX9_fits 44 = .ok (.imul, 1) := by decide +kernel
theorem dX9_fits_45 : decode cX9_fits 45 = .ok (.iadd, 1) := by decide +kernel
theorem dX9_fits_46 : decode cX9_fits 46 = .ok (.iconst 3, 1) := by decide +kernel
theorem dX9_fits_47 : decode cX9_fits 47 = .ok (.iadd, 1) := by decide +kernel
theorem dX9_fits_48 : decode cX9_fits 48 = .ok (.istore 4, 2) := by decide +kernel
theorem dX9_fits_50 : decode cX9_fits 50 = .ok (.aload_n 0, 1) := by decide +kernel
theorem dX9_fits_51 : decode cX9_fits 51 = .ok (.getfield 7, 3) := by decide +kernel
theorem dX9_fits_54 : decode cX9_fits 54 = .ok (.iload 4, 2) := by decide +kernel
theorem dX9_fits_56 : decode cX9_fits 56 = .ok (.iaload, 1) := by decide +kernel
theorem dX9_fits_57 : decode cX9_fits 57 = .ok (.istore 5, 2) := by decide +kernel
theorem dX9_fits_59 : decode cX9_fits 59 = .ok (.iconst 0, 1) := by decide +kernel
theorem dX9_fits_60 : decode cX9_fits 60 = .ok (.istore 6, 2) := by decide +kernel
theorem dX9_fits_62 : decode cX9_fits 62 = .ok (.bipush (-3), 2) := by decide +kernel
theorem dX9_fits_64 : decode cX9_fits 64 = .ok (.istore 7, 2) := by decide +kernel
theorem dX9_fits_66 : decode cX9_fits 66 = .ok (.bipush 9, 2) := by decide +kernel
theorem dX9_fits_68 : decode cX9_fits 68 = .ok (.istore 8, 2) := by decide +kernel
theorem dX9_fits_70 : decode cX9_fits 70 = .ok (.iload 8, 2) := by decide +kernel
theorem dX9_fits_72 : decode cX9_fits 72 = .ok (.ifCond .lt 55, 3) := by decide +kernel
theorem dX9_fits_75 : decode cX9_fits 75 = .ok (.aload_n 0, 1) := by decide +kernel
theorem dX9_fits_76 : decode cX9_fits 76 = .ok (.getfield 7, 3) := by decide +kernel
theorem dX9_fits_79 : decode cX9_fits 79 = .ok (.iload 4, 2) := by decide +kernel
theorem dX9_fits_81 : decode cX9_fits 81 = .ok (.iload 8, 2) := by decide +kernel
theorem dX9_fits_83 : decode cX9_fits 83 = .ok (.iastore, 1) := by decide +kernel
theorem dX9_fits_84 : decode cX9_fits 84 = .ok (.aload_n 0, 1) := by decide +kernel
theorem dX9_fits_85 : decode cX9_fits 85 = .ok (.iload_n 1, 1) := by decide +kernel
theorem dX9_fits_86 : decode cX9_fits 86 = .ok (.iload_n 2, 1) := by decide +kernel
theorem dX9_fits_87 : decode cX9_fits 87 = .ok (.invokevirtual 254, 3) := by decide +kernel
theorem dX9_fits_90 : decode cX9_fits 90 = .ok (.istore 9, 2) := by decide +kernel
theorem dX9_fits_92 : decode cX9_fits 92 = .ok (.iload 6, 2) := by decide +kernel
theorem dX9_fits_94 : decode cX9_fits 94 = .ok (.iload 9, 2) := by decide +kernel
theorem dX9_fits_96 : decode cX9_fits 96 = .ok (.ifCond .eq 7, 3) := by decide +kernel
theorem dX9_fits_99 : decode cX9_fits 99 = .ok (.iconst 1, 1) := by decide +kernel
theorem dX9_fits_100 : decode cX9_fits 100 = .ok (.goto 4, 3) := by decide +kernel
theorem dX9_fits_103 : decode cX9_fits 103 = .ok (.iconst 0, 1) := by decide +kernel
theorem dX9_fits_104 : decode cX9_fits 104 = .ok (.iadd, 1) := by decide +kernel
theorem dX9_fits_105 : decode cX9_fits 105 = .ok (.istore 6, 2) := by decide +kernel
theorem dX9_fits_107 : decode cX9_fits 107 = .ok (.iload 9, 2) := by decide +kernel
theorem dX9_fits_109 : decode cX9_fits 109 = .ok (.ifCond .eq 8, 3) := by decide +kernel
theorem dX9_fits_112 : decode cX9_fits 112 = .ok (.iload 8, 2) := by decide +kernel
theorem dX9_fits_114 : decode cX9_fits 114 = .ok (.goto 5, 3) := by decide +kernel
theorem dX9_fits_117 : decode cX9_fits 117 = .ok (.iload 7, 2) := by decide +kernel
theorem dX9_fits_119 : decode cX9_fits 119 = .ok (.istore 7, 2) := by decide +kernel
theorem dX9_fits_121 : decode cX9_fits 121 = .ok (.iinc 8 (-1), 3) := by decide +kernel
theorem dX9_fits_124 : decode cX9_fits 124 = .ok (.goto (-54), 3) := by decide +kernel
theorem dX9_fits_127 : decode cX9_fits 127 = .ok (.aload_n 0, 1) := by decide +kernel
theorem dX9_fits_128 : decode cX9_fits 128 = .ok (.getfield 7, 3) := by decide +kernel
theorem dX9_fits_131 : decode cX9_fits 131 = .ok (.iload 4, 2) := by decide +kernel
theorem dX9_fits_133 : decode cX9_fits 133 = .ok (.iload 5, 2) := by decide +kernel
theorem dX9_fits_135 : decode cX9_fits 135 = .ok (.iastore, 1) := by decide +kernel
theorem dX9_fits_136 : decode cX9_fits 136 = .ok (.iload_n 3, 1) := by decide +kernel
theorem dX9_fits_137 : decode cX9_fits 137 = .ok (.ifCond .ne 8, 3) := by decide +kernel
theorem dX9_fits_140 : decode cX9_fits 140 = .ok (.iload 6, 2) := by decide +kernel
theorem dX9_fits_142 : decode cX9_fits 142 = .ok (.goto 5, 3) := by decide +kernel
theorem dX9_fits_145 : decode cX9_fits 145 = .ok (.iload 7, 2) := by decide +kernel
theorem dX9_fits_147 : decode cX9_fits 147 = .ok (.ireturn, 1) := by decide +kernel
set_option maxRecDepth 20000 in
theorem ggX9_odds_X9_isIn : GoodIn wsX9_odds wsX9_isIn := goodIn_r _ [8] (by decide +kernel) (by decide +kernel)
set_option maxRecDepth 20000 in
theorem gX9_odds_X9_isIn : GoodIn wsX9_odds (va_wsS RX9 60 yX9_isIn wsX9_isIn) := goodIn_app (goodIn_of _ (by decide +kernel)) ggX9_odds_X9_isIn
set_option maxRecDepth 20000 in
theorem ggX9_odds_X9_product : GoodIn wsX9_odds wsX9_product := goodIn_r _ [11] (by decide +kernel) (by decide +kernel)
set_option maxRecDepth 20000 in
theorem gX9_odds_X9_product : GoodIn wsX9_odds (va_wsS RX9 260 yX9_product wsX9_product) := goodIn_app (goodIn_of _ (by decide +kernel)) ggX9_odds_X9_product
set_option maxRecDepth 20000 in
theorem ggX9_odds_X9_partOf : GoodIn wsX9_odds wsX9_partOf := goodIn_r _ [14] (by decide +kernel) (by decide +kernel)
set_option maxRecDepth 20000 in
theorem gX9_odds_X9_partOf : GoodIn wsX9_odds (va_wsS RX9 266 yX9_partOf wsX9_partOf) := goodIn_app (goodIn_of _ (by decide +kernel)) ggX9_odds_X9_partOf
theorem dX9_odds_0 : decode cX9_odds 0 = .ok (.iload_n 1, 1) := by decide +kernel
theorem dX9_odds_1 : decode cX9_odds 1 = .ok (.i2l, 1) := by decide +kernel
theorem dX9_odds_2 : decode cX9_odds 2 = .ok (.lconst 0, 1) := by decide +kernel
theorem dX9_odds_3 : decode cX9_odds 3 = .ok (.ldc2_w 58, 3) := by decide +kernel
theorem dX9_odds_6 : decode cX9_odds 6 = .ok (.invokestatic 60, 3) := by decide +kernel
theorem dX9_odds_9 : decode cX9_odds 9 = .ok (.ifCond .eq 24, 3) := by decide +kernel
theorem dX9_odds_12 : decode cX9_odds 12 = .ok (.iload_n 2, 1) := by decide +kernel
theorem dX9_odds_13 : decode cX9_odds 13 = .ok (.i2l, 1) := by decide +kernel
theorem dX9_odds_14 : decode cX9_odds 14 = .ok (.lconst 0, 1) := by decide +kernel
theorem dX9_odds_15 : decode cX9_odds 15 = .ok (.iload_n 1, 1) := by decide +kernel
theorem dX9_odds_16 : decode cX9_odds 16 = .ok (.i2l, 1) := by decide +kernel
theorem dX9_odds_17 : decode cX9_odds 17 = .ok (.invokestatic 60, 3) := by decide +kernel
theorem dX9_odds_20 : decode cX9_odds 20 = .ok (.ifCond .eq 13, 3) := by decide +kernel
theorem dX9_odds_23 : decode cX9_odds 23 = .ok (.iload_n 3, 1) := by decide +kernel
theorem dX9_odds_24 : decode cX9_odds 24 = .ok (.i2l, 1) := by decide +kernel
theorem dX9_odds_25 : decode cX9_odds 25 = .ok (.lconst 0, 1) := by decide +kernel
theorem dX9_odds_26 : decode cX9_odds 26 = .ok (.lconst 1, 1) := by decide +kernel
theorem dX9_odds_27 : decode cX9_odds 27 = .ok (.invokestatic 60, 3) := by decide +kernel
theorem dX9_odds_30 : decode cX9_odds 30 = .ok (.ifCond .ne 7, 3) := by decide +kernel
theorem dX9_odds_33 : decode cX9_odds 33 = .ok (.ldc2_w 258, 3) := by decide +kernel
theorem dX9_odds_36 : decode cX9_odds 36 = .ok (.lreturn, 1) := by decide +kernel
theorem dX9_odds_37 : decode cX9_odds 37 = .ok (.iload_n 1, 1) := by decide +kernel
theorem dX9_odds_38 : decode cX9_odds 38 = .ok (.invokestatic 260, 3) := by decide +kernel
theorem dX9_odds_41 : decode cX9_odds 41 = .ok (.iload_n 2, 1) := by decide +kernel
theorem dX9_odds_42 : decode cX9_odds 42 = .ok (.invokestatic 260, 3) := by decide +kernel
theorem dX9_odds_45 : decode cX9_odds 45 = .ok (.ldiv, 1) := by decide +kernel
theorem dX9_odds_46 : decode cX9_odds 46 = .ok (.iload_n 1, 1) := by decide +kernel
theorem dX9_odds_47 : decode cX9_odds 47 = .ok (.iload_n 2, 1) := by decide +kernel
theorem dX9_odds_48 : decode cX9_odds 48 = .ok (.isub, 1) := by decide +kernel
theorem dX9_odds_49 : decode cX9_odds 49 = .ok (.invokestatic 260, 3) := by decide +kernel
theorem dX9_odds_52 : decode cX9_odds 52 = .ok (.ldiv, 1) := by decide +kernel
theorem dX9_odds_53 : decode cX9_odds 53 = .ok (.lstore 4, 2) := by decide +kernel
theorem dX9_odds_55 : decode cX9_odds 55 = .ok (.lconst 1, 1) := by decide +kernel
theorem dX9_odds_56 : decode cX9_odds 56 = .ok (.lstore 6, 2) := by decide +kernel
theorem dX9_odds_58 : decode cX9_odds 58 = .ok (.iconst 0, 1) := by decide +kernel
theorem dX9_odds_59 : decode cX9_odds 59 = .ok (.istore 8, 2) := by decide +kernel
theorem dX9_odds_61 : decode cX9_odds 61 = .ok (.iload 8, 2) := by decide +kernel
theorem dX9_odds_63 : decode cX9_odds 63 = .ok (.iload_n 1, 1) := by decide +kernel
theorem dX9_odds_64 : decode cX9_odds 64 = .ok (.if_icmp .ge 50, 3) := by decide +kernel
theorem dX9_odds_67 : decode cX9_odds 67 = .ok (.lload 4, 2) := by decide +kernel
theorem dX9_odds_69 : decode cX9_odds 69 = .ok (.iload 8, 2) := by decide +kernel
theorem dX9_odds_71 : decode cX9_odds 71 = .ok (.iload_n 2, 1) := by decide +kernel
theorem dX9_odds_72 : decode cX9_odds 72 = .ok (.if_icmp .ge 14, 3) := by decide +kernel
theorem dX9_odds_75 : decode cX9_odds 75 = .ok (.aload_n 0, 1) := by decide +kernel
theorem dX9_odds_76 : decode cX9_odds 76 = .ok (.getfield 7, 3) := by decide +kernel
theorem dX9_odds_79 : decode cX9_odds 79 = .ok (.bipush 8, 2) := by decide +kernel
theorem dX9_odds_81 : decode cX9_odds 81 = .ok (.iaload, 1) := by decide +kernel
theorem dX9_odds_82 : decode cX9_odds 82 = .ok (.i2l, 1) := by decide +kernel
theorem dX9_odds_83 : decode cX9_odds 83 = .ok (.goto 14, 3) := by decide +kernel
theorem dX9_odds_86 : decode cX9_odds 86 = .ok (.bipush 100, 2) := by decide +kernel
theorem dX9_odds_88 : decode cX9_odds 88 = .ok (.aload_n 0, 1) := by decide +kernel
theorem dX9_odds_89 : decode cX9_odds 89 = .ok (.getfield 7, 3) := by decide +kernel
theorem dX9_odds_92 : decode cX9_odds 92 = .ok (.bipush 8, 2) := by decide +kernel
theorem dX9_odds_94 : decode cX9_odds 94 = .ok (.iaload, 1) := by decide +kernel
theorem dX9_odds_95 : decode cX9_odds 95 = .ok (.isub, 1) := by decide +kernel
theorem dX9_odds_96 : decode cX9_odds 96 = .ok (.i2l, 1) := by decide +kernel
theorem dX9_odds_97 : decode cX9_odds 97 = .ok (.lmul, 1) := by decide +kernel
theorem dX9_odds_98 : decode cX9_odds 98 = .ok (.lstore 4, 2) := by decide +kernel
theorem dX9_odds_100 : decode cX9_odds 100 = .ok (.lload 6, 2) := by decide +kernel
theorem dX9_odds_102 : decode cX9_odds 102 = .ok (.ldc2_w 264, 3) := by decide +kernel
theorem dX9_odds_105 : decode cX9_odds 105 = .ok (.lmul, 1) := by decide +kernel
theorem dX9_odds_106 : decode cX9_odds 106 = .ok (.lstore 6, 2) := by decide +kernel
theorem dX9_odds_108 : decode cX9_odds 108 = .ok (.iinc 8 1, 3) := by decide +kernel
theorem dX9_odds_111 : decode cX9_odds 111 = .ok (.goto (-50), 3) := by decide +kernel
theorem dX9_odds_114 : decode cX9_odds 114 = .ok (.lload 4, 2) := by decide +kernel
theorem dX9_odds_116 : decode cX9_odds 116 = .ok (.lload 6, 2) := by decide +kernel
theorem dX9_odds_118 : decode cX9_odds 118 = .ok (.iload_n 3, 1) := by decide +kernel
theorem dX9_odds_119 : decode cX9_odds 119 = .ok (.invokestatic 266, 3) := by decide +kernel
theorem dX9_odds_122 : decode cX9_odds 122 = .ok (.lreturn, 1) := by decide +kernel
set_option maxRecDepth 20000 in
theorem ggX9_hope_X9_isIn : GoodIn wsX9_hope wsX9_isIn := goodIn_r _ [8] (by decide +kernel) (by decide +kernel)
set_option maxRecDepth 20000 in
theorem gX9_hope_X9_isIn : GoodIn wsX9_hope (va_wsS RX9 60 yX9_isIn wsX9_isIn) := goodIn_app (goodIn_of _ (by decide +kernel)) ggX9_hope_X9_isIn
set_option maxRecDepth 20000 in
theorem ggX9_hope_X9_partOf : GoodIn wsX9_hope wsX9_partOf := goodIn_r _ [11] (by decide +kernel) (by decide +kernel)
set_option maxRecDepth 20000 in
theorem gX9_hope_X9_partOf : GoodIn wsX9_hope (va_wsS RX9 266 yX9_partOf wsX9_partOf) := goodIn_app (goodIn_of _ (by decide +kernel)) ggX9_hope_X9_partOf
theorem dX9_hope_0 : decode cX9_hope 0 = .ok (.iload_n 1, 1) := by decide +kernel
theorem dX9_hope_1 : decode cX9_hope 1 = .ok (.i2l, 1) := by decide +kernel
theorem dX9_hope_2 : decode cX9_hope 2 = .ok (.lconst 0, 1) := by decide +kernel
theorem dX9_hope_3 : decode cX9_hope 3 = .ok (.ldc2_w 162, 3) := by decide +kernel
theorem dX9_hope_6 : decode cX9_hope 6 = .ok (.invokestatic 60, 3) := by decide +kernel
theorem dX9_hope_9 : decode cX9_hope 9 = .ok (.ifCond .eq 34, 3) := by decide +kernel
theorem dX9_hope_12 : decode cX9_hope 12 = .ok (.iload_n 2, 1) := by decide +kernel
theorem dX9_hope_13 : decode cX9_hope 13 = .ok (.i2l, 1) := by decide +kernel
theorem dX9_hope_14 : decode cX9_hope 14 = .ok (.lconst 0, 1) := by decide +kernel
theorem dX9_hope_15 : decode cX9_hope 15 = .ok (.lconst 1, 1) := by decide +kernel
theorem dX9_hope_16 : decode cX9_hope 16 = .ok (.invokestatic 60, 3) := by decide +kernel
theorem dX9_hope_19 : decode cX9_hope 19 = .ok (.ifCond .eq 24, 3) := by decide +kernel
theorem dX9_hope_22 : decode cX9_hope 22 = .ok (.iload_n 1, 1) := by decide +kernel
theorem dX9_hope_23 : decode cX9_hope 23 = .ok (.i2l, 1) := by decide +kernel
theorem dX9_hope_24 : decode cX9_hope 24 = .ok (.aload_n 0, 1) := by decide +kernel
theorem dX9_hope_25 : decode cX9_hope 25 = .ok (.getfield 7, 3) := by decide +kernel
theorem dX9_hope_28 : decode cX9_hope 28 = .ok (.bipush 8, 2) := by decide +kernel
theorem dX9_hope_30 : decode cX9_hope 30 = .ok (.iaload, 1) := by decide +kernel
theorem dX9_hope_31 : decode cX9_hope 31 = .ok (.i2l, 1) := by decide +kernel
theorem dX9_hope_32 : decode cX9_hope 32 = .ok (.lmul, 1) := by decide +kernel
theorem dX9_hope_33 : decode cX9_hope 33 = .ok (.ldc2_w 264, 3) := by decide +kernel
theorem dX9_hope_36 : decode cX9_hope 36 = .ok (.iload_n 2, 1) := by decide +kernel
theorem dX9_hope_37 : decode cX9_hope 37 = .ok (.invokestatic 266, 3) := by decide +kernel
theorem dX9_hope_40 : decode cX9_hope 40 = .ok (.goto 6, 3) := by decide +kernel
theorem dX9_hope_43 : decode cX9_hope 43 = .ok (.ldc2_w 258, 3) := by decide +kernel
theorem dX9_hope_46 : decode cX9_hope 46 = .ok (.lreturn, 1) := by decide +kernel
set_option maxRecDepth 20000 in
theorem ggX9_prove_X9_isOne : GoodIn wsX9_prove wsX9_isOne := goodIn_r _ [10, 2, 56, 57, 58, 59, 60, 61, 62, 63, 64, 65, 66, 67, 68, 69, 70, 71, 72, 73, 74, 75, 76, 77, 78, 79, 80, 81, 82, 83, 84] (by decide +kernel) (by decide +kernel)
set_option maxRecDepth 20000 in
theorem gX9_prove_X9_isOne : GoodIn wsX9_prove (wsV RX9 130 RX9 yX9_isOne wsX9_isOne) := goodIn_app (goodIn_of _ (by decide +kernel)) ggX9_prove_X9_isOne
set_option maxRecDepth 20000 in
theorem ggX9_prove_X9_isIn : GoodIn wsX9_prove wsX9_isIn := goodIn_r _ [13] (by decide +kernel) (by decide +kernel)
set_option maxRecDepth 20000 in
theorem gX9_prove_X9_isIn : GoodIn wsX9_prove (va_wsS RX9 60 yX9_isIn wsX9_isIn) := goodIn_app (goodIn_of _ (by decide +kernel)) ggX9_prove_X9_isIn
set_option maxRecDepth 20000 in
theorem ggX9_prove_X9_copyRow : GoodIn wsX9_prove wsX9_copyRow := goodIn_r _ [16] (by decide +kernel) (by decide +kernel)
set_option maxRecDepth 20000 in
theorem gX9_prove_X9_copyRow : GoodIn wsX9_prove (va_wsS RX9 150 yX9_copyRow wsX9_copyRow) := goodIn_app (goodIn_of _ (by decide +kernel)) ggX9_prove_X9_copyRow
set_option maxRecDepth 20000 in
theorem ggX9_prove_X9_goesOn : GoodIn wsX9_prove wsX9_goesOn := goodIn_r _ [20, 2, 21, 22, 23, 24, 9, 25, 26, 27, 28, 29, 30, 31, 32, 33, 34, 35, 36, 37, 38, 39, 40, 41, 42, 43, 44, 45, 46, 47, 48, 49, 50, 51, 52, 53, 54, 55, 56, 57, 58, 59, 60, 61, 62, 63, 64, 65, 66, 67, 68, 69, 70, 71, 72, 73, 74, 75, 76, 77, 78, 79, 80, 81, 82, 83, 84] (by decide +kernel) (by decide +kernel)
set_option maxRecDepth 20000 in
theorem gX9_prove_X9_goesOn : GoodIn wsX9_prove (wsV RX9 207 RX9 yX9_goesOn wsX9_goesOn) := goodIn_app (goodIn_of _ (by decide +kernel)) ggX9_prove_X9_goesOn
set_option maxRecDepth 20000 in
theorem ggX9_prove_X9_its : GoodIn wsX9_prove wsX9_its := goodIn_r _ [33, 2, 56, 57, 58, 59, 60, 61, 62, 63, 64, 65, 66, 67, 68, 69, 70, 71, 72, 73, 74, 75, 76, 77, 78, 79, 80, 81, 82, 83, 84] (by decide +kernel) (by decide +kernel)
set_option maxRecDepth 20000 in
theorem gX9_prove_X9_its : GoodIn wsX9_prove (wsV RX9 172 RX9 yX9_its wsX9_its) := goodIn_app (goodIn_of _ (by decide +kernel)) ggX9_prove_X9_its
theorem dX9_prove_0 : decode cX9_prove 0 = .ok (.aload_n 0, 1) := by decide +kernel
theorem dX9_prove_1 : decode cX9_prove 1 = .ok (.iload_n 1, 1) := by decide +kernel
theorem dX9_prove_2 : decode cX9_prove 2 = .ok (.invokevirtual 130, 3) := by decide +kernel
theorem dX9_prove_5 : decode cX9_prove 5 = .ok (.ifCond .eq 15, 3) := by decide +kernel
theorem dX9_prove_8 : decode cX9_prove 8 = .ok (.iload_n 2, 1) := by decide +kernel
theorem dX9_prove_9 : decode cX9_prove 9 = .ok (.i2l, 1) := by decide +kernel
theorem dX9_prove_10 : decode cX9_prove 10 = .ok (.lconst 1, 1) := by decide +kernel
theorem dX9_prove_11 : decode cX9_prove 11 = .ok (.ldc2_w 270, 3) := by decide +kernel
theorem dX9_prove_14 : decode cX9_prove 14 = .ok (.invokestatic 60, 3) := by decide +kernel
theorem dX9_prove_17 : decode cX9_prove 17 = .ok (.ifCond .ne 5, 3) := by decide +kernel
theorem dX9_prove_20 : decode cX9_prove 20 = .ok (.iconst (-1), 1) := by decide +kernel
theorem dX9_prove_21 : decode cX9_prove 21 = .ok (.ireturn, 1) := by decide +kernel
theorem dX9_prove_22 : decode cX9_prove 22 = .ok (.aload_n 0, 1) := by decide +kernel
theorem dX9_prove_23 : decode cX9_prove 23 = .ok (.getfield 7, 3) := by decide +kernel
theorem dX9_prove_26 : decode cX9_prove 26 = .ok (.aload_n 0, 1) := by decide +kernel
theorem dX9_prove_27 : decode cX9_prove 27 = .ok (.getfield 16, 3) := by decide +kernel
theorem dX9_prove_30 : decode cX9_prove 30 = .ok (.invokestatic 150, 3) := by decide +kernel
theorem dX9_prove_33 : decode cX9_prove 33 = .ok (.iconst 0, 1) := by decide +kernel
theorem dX9_prove_34 : decode cX9_prove 34 = .ok (.istore_n 3, 1) := by decide +kernel
theorem dX9_prove_35 : decode cX9_prove 35 = .ok (.iload_n 3, 1) := by decide +kernel
theorem dX9_prove_36 : decode cX9_prove 36 = .ok (.iload_n 2, 1) := by decide +kernel
theorem dX9_prove_37 : decode cX9_prove 37 = .ok (.if_icmp .ge 53, 3) := by decide +kernel
theorem dX9_prove_40 : decode cX9_prove 40 = .ok (.aload_n 0, 1) := by decide +kernel
theorem dX9_prove_41 : decode cX9_prove 41 = .ok (.getfield 31, 3) := by decide +kernel
theorem dX9_prove_44 : decode cX9_prove 44 = .ok (.iconst 3, 1) := by decide +kernel
theorem dX9_prove_45 : decode cX9_prove 45 = .ok (.iload_n 3, 1) := by decide +kernel
theorem dX9_prove_46 : decode cX9_prove 46 = .ok (.imul, 1) := by decide +kernel
theorem dX9_prove_47 : decode cX9_prove 47 = .ok (.iconst 2, 1) := by decide +kernel
theorem dX9_prove_48 : decode cX9_prove 48 = .ok (.iadd, 1) := by decide +kernel
theorem dX9_prove_49 : decode cX9_prove 49 = .ok (.aload_n 0, 1) := by decide +kernel
theorem dX9_prove_50 : decode cX9_prove 50 = .ok (.invokevirtual 207, 3) := by decide +kernel
theorem dX9_prove_53 : decode cX9_prove 53 = .ok (.iastore, 1) := by decide +kernel
theorem dX9_prove_54 : decode cX9_prove 54 = .ok (.aload_n 0, 1) := by decide +kernel
theorem dX9_prove_55 : decode cX9_prove 55 = .ok (.getfield 31, 3) := by decide +kernel
theorem dX9_prove_58 : decode cX9_prove 58 = .ok (.iconst 3, 1) := by decide +kernel
theorem dX9_prove_59 : decode cX9_prove 59 = .ok (.iload_n 3, 1) := by decide +kernel
theorem dX9_prove_60 : decode cX9_prove 60 = .ok (.imul, 1) := by decide +kernel
theorem dX9_prove_61 : decode cX9_prove 61 = .ok (.aload_n 0, 1) := by decide +kernel
theorem dX9_prove_62 : decode cX9_prove 62 = .ok (.iload_n 1, 1) := by decide +kernel
theorem dX9_prove_63 : decode cX9_prove 63 = .ok (.iconst 1, 1) := by decide +kernel
theorem dX9_prove_64 : decode cX9_prove 64 = .ok (.invokevirtual 172, 3) := by decide +kernel
theorem dX9_prove_67 : decode cX9_prove 67 = .ok (.iastore, 1) := by decide +kernel
theorem dX9_prove_68 : decode cX9_prove 68 = .ok (.aload_n 0, 1) := by decide +kernel
theorem dX9_prove_69 : decode cX9_prove 69 = .ok (.getfield 31, 3) := by decide +kernel
theorem dX9_prove_72 : decode cX9_prove 72 = .ok (.iconst 3, 1) := by decide +kernel
theorem dX9_prove_73 : decode cX9_prove 73 = .ok (.iload_n 3, 1) := by decide +kernel
theorem dX9_prove_74 : decode cX9_prove 74 = .ok (.imul, 1) := by decide +kernel
theorem dX9_prove_75 : decode cX9_prove 75 = .ok (.iconst 1, 1) := by decide +kernel
theorem dX9_prove_76 : decode cX9_prove 76 = .ok (.iadd, 1) := by decide +kernel
theorem dX9_prove_77 : decode cX9_prove 77 = .ok (.aload_n 0, 1) := by decide +kernel
theorem dX9_prove_78 : decode cX9_prove 78 = .ok (.iload_n 1, 1) := by decide +kernel
theorem dX9_prove_79 : decode cX9_prove 79 = .ok (.iconst 2, 1) := by decide +kernel
theorem dX9_prove_80 : decode cX9_prove 80 = .ok (.invokevirtual 172, 3) := by decide +kernel
theorem dX9_prove_83 : decode cX9_prove 83 = .ok (.iastore, 1) := by decide +kernel
theorem dX9_prove_84 : decode cX9_prove 84 = .ok (.iinc 3 1, 3) := by decide +kernel
theorem dX9_prove_87 : decode cX9_prove 87 = .ok (.goto (-52), 3) := by decide +kernel
theorem dX9_prove_90 : decode cX9_prove 90 = .ok (.aload_n 0, 1) := by decide +kernel
theorem dX9_prove_91 : decode cX9_prove 91 = .ok (.getfield 16, 3) := by decide +kernel
theorem dX9_prove_94 : decode cX9_prove 94 = .ok (.aload_n 0, 1) := by decide +kernel
theorem dX9_prove_95 : decode cX9_prove 95 = .ok (.getfield 7, 3) := by decide +kernel
theorem dX9_prove_98 : decode cX9_prove 98 = .ok (.invokestatic 150, 3) := by decide +kernel
theorem dX9_prove_101 : decode cX9_prove 101 = .ok (.aload_n 0, 1) := by decide +kernel
theorem dX9_prove_102 : decode cX9_prove 102 = .ok (.iload_n 2, 1) := by decide +kernel
theorem dX9_prove_103 : decode cX9_prove 103 = .ok (.putfield 157, 3) := by decide +kernel
theorem dX9_prove_106 : decode cX9_prove 106 = .ok (.iload_n 2, 1) := by decide +kernel
theorem dX9_prove_107 : decode cX9_prove 107 = .ok (.ireturn, 1) := by decide +kernel
set_option maxRecDepth 20000 in
theorem ggX9_isRow_X9_isIn : GoodIn wsX9_isRow wsX9_isIn := goodIn_r _ [6] (by decide +kernel) (by decide +kernel)
set_option maxRecDepth 20000 in
theorem gX9_isRow_X9_isIn : GoodIn wsX9_isRow (va_wsS RX9 60 yX9_isIn wsX9_isIn) := goodIn_app (goodIn_of _ (by decide +kernel)) ggX9_isRow_X9_isIn
theorem dX9_isRow_0 : decode cX9_isRow 0 = .ok (.iload_n 1, 1) := by decide +kernel
theorem dX9_isRow_1 : decode cX9_isRow 1 = .ok (.i2l, 1) := by decide +kernel
theorem dX9_isRow_2 : decode cX9_isRow 2 = .ok (.lconst 0, 1) := by decide +kernel
theorem dX9_isRow_3 : decode cX9_isRow 3 = .ok (.aload_n 0, 1) := by decide +kernel
theorem dX9_isRow_4 : decode cX9_isRow 4 = .ok (.getfield 157, 3) := by decide +kernel
theorem dX9_isRow_7 : decode cX9_isRow 7 = .ok (.iconst 1, 1) := by decide +kernel
theorem dX9_isRow_8 : decode cX9_isRow 8 = .ok (.isub, 1) := by decide +kernel
theorem dX9_isRow_9 : decode cX9_isRow 9 = .ok (.i2l, 1) := by decide +kernel
theorem dX9_isRow_10 : decode cX9_isRow 10 = .ok (.invokestatic 60, 3) := by decide +kernel
theorem dX9_isRow_13 : decode cX9_isRow 13 = .ok (.ifCond .eq 19, 3) := by decide +kernel
theorem dX9_isRow_16 : decode cX9_isRow 16 = .ok (.iload_n 2, 1) := by decide +kernel
theorem dX9_isRow_17 : decode cX9_isRow 17 = .ok (.i2l, 1) := by decide +kernel
theorem dX9_isRow_18 : decode cX9_isRow 18 = .ok (.lconst 0, 1) := by decide +kernel
theorem dX9_isRow_19 : decode cX9_isRow 19 = .ok (.ldc2_w 178, 3) := by decide +kernel
theorem dX9_isRow_22 : decode cX9_isRow 22 = .ok (.invokestatic 60, 3) := by decide +kernel
theorem dX9_isRow_25 : decode cX9_isRow 25 = .ok (.ifCond .eq 7, 3) := by decide +kernel
theorem dX9_isRow_28 : decode cX9_isRow 28 = .ok (.iconst 1, 1) := by decide +kernel
theorem dX9_isRow_29 : decode cX9_isRow 29 = .ok (.goto 4, 3) := by decide +kernel
theorem dX9_isRow_32 : decode cX9_isRow 32 = .ok (.iconst 0, 1) := by decide +kernel
theorem dX9_isRow_33 : decode cX9_isRow 33 = .ok (.ireturn, 1) := by decide +kernel
set_option maxRecDepth 20000 in
theorem ggX9_row_X9_isRow : GoodIn wsX9_row wsX9_isRow := goodIn_r _ [6, 7, 8, 9, 10, 5, 11, 12, 13, 14, 15, 16, 17, 18, 19, 20, 21, 22, 23, 24, 25, 26, 27, 28, 29, 30, 31, 32, 33, 34, 35, 36, 37, 38, 39, 40] (by decide +kernel) (by decide +kernel)
set_option maxRecDepth 20000 in
theorem gX9_row_X9_isRow : GoodIn wsX9_row (wsV RX9 272 RX9 yX9_isRow wsX9_isRow) := goodIn_app (goodIn_of _ (by decide +kernel)) ggX9_row_X9_isRow
theorem dX9_row_0 : decode cX9_row 0 = .ok (.aload_n 0, 1) := by decide +kernel
theorem dX9_row_1 : decode cX9_row 1 = .ok (.iload_n 1, 1) := by decide +kernel
theorem dX9_row_2 : decode cX9_row 2 = .ok (.iload_n 2, 1) := by decide +kernel
theorem dX9_row_3 : decode cX9_row 3 = .ok (.invokevirtual 272, 3) := by decide +kernel
theorem dX9_row_6 : decode cX9_row 6 = .ok (.ifCond .eq 16, 3) := by decide +kernel
theorem dX9_row_9 : decode cX9_row 9 = .ok (.aload_n 0, 1) := by decide +kernel
theorem dX9_row_10 : decode cX9_row 10 = .ok (.getfield 31, 3) := by decide +kernel
theorem dX9_row_13 : decode cX9_row 13 = .ok (.iconst 3, 1) := by decide +kernel
theorem dX9_row_14 : decode cX9_row 14 = .ok (.iload_n 1, 1) := by decide +kernel
theorem dX9_row_15 : decode cX9_row 15 = .ok (.imul, 1) := by decide +kernel
theorem dX9_row_16 : decode cX9_row 16 = .ok (.iload_n 2, 1) := by decide +kernel
theorem dX9_row_17 : decode cX9_row 17 = .ok (.iadd, 1) := by decide +kernel
theorem dX9_row_18 : decode cX9_row 18 = .ok (.iaload, 1) := by decide +kernel
theorem dX9_row_19 : decode cX9_row 19 = .ok (.goto 5, 3) := by decide +kernel
theorem dX9_row_22 : decode cX9_row 22 = .ok (.bipush (-9), 2) := by decide +kernel
theorem dX9_row_24 : decode cX9_row 24 = .ok (.ireturn, 1) := by decide +kernel
set_option maxRecDepth 20000 in
theorem ggX9_alterRow_X9_isRow : GoodIn wsX9_alterRow wsX9_isRow := goodIn_r _ [6, 7, 8, 9, 10, 5, 11, 12, 13, 14, 15, 16, 17, 18, 19, 20, 21, 22, 23, 24, 25, 26, 27, 28, 29, 30, 31, 32, 33, 34, 35, 36, 37, 38, 39, 40] (by decide +kernel) (by decide +kernel)
set_option maxRecDepth 20000 in
theorem gX9_alterRow_X9_isRow : GoodIn wsX9_alterRow (wsV RX9 272 RX9 yX9_isRow wsX9_isRow) := goodIn_app (goodIn_of _ (by decide +kernel)) ggX9_alterRow_X9_isRow
theorem dX9_alterRow_0 : decode cX9_alterRow 0 = .ok (.aload_n 0, 1) := by decide +kernel
theorem dX9_alterRow_1 : decode cX9_alterRow 1 = .ok (.iload_n 1, 1) := by decide +kernel
theorem dX9_alterRow_2 : decode cX9_alterRow 2 = .ok (.iload_n 2, 1) := by decide +kernel
theorem dX9_alterRow_3 : decode cX9_alterRow 3 = .ok (.invokevirtual 272, 3) := by decide +kernel
theorem dX9_alterRow_6 : decode cX9_alterRow 6 = .ok (.ifCond .ne 6, 3) := by decide +kernel
theorem dX9_alterRow_9 : decode cX9_alterRow 9 = .ok (.bipush (-9), 2) := by decide +kernel
theorem dX9_alterRow_11 : decode cX9_alterRow 11 = .ok (.ireturn, 1) := by decide +kernel
theorem dX9_alterRow_12 : decode cX9_alterRow 12 = .ok (.aload_n 0, 1) := by decide +kernel
theorem dX9_alterRow_13 : decode cX9_alterRow 13 = .ok (.getfield 31, 3) := by decide +kernel
theorem dX9_alterRow_16 : decode cX9_alterRow 16 = .ok (.iconst 3, 1) := by decide +kernel
theorem dX9_alterRow_17 : decode cX9_alterRow 17 = .ok (.iload_n 1, 1) := by decide +kernel
theorem dX9_alterRow_18 : decode cX9_alterRow 18 = .ok (.imul, 1) := by decide +kernel
theorem dX9_alterRow_19 : decode cX9_alterRow 19 = .ok (.iload_n 2, 1) := by decide +kernel
theorem dX9_alterRow_20 : decode cX9_alterRow 20 = .ok (.iadd, 1) := by decide +kernel
theorem dX9_alterRow_21 : decode cX9_alterRow 21 = .ok (.iaload, 1) := by decide +kernel
theorem dX9_alterRow_22 : decode cX9_alterRow 22 = .ok (.istore 4, 2) := by decide +kernel
theorem dX9_alterRow_24 : decode cX9_alterRow 24 = .ok (.aload_n 0, 1) := by decide +kernel
theorem dX9_alterRow_25 : decode cX9_alterRow 25 = .ok (.getfield 31, 3) := by decide +kernel
theorem dX9_alterRow_28 : decode cX9_alterRow 28 = .ok (.iconst 3, 1) := by decide +kernel
theorem dX9_alterRow_29 : decode cX9_alterRow 29 = .ok (.iload_n 1, 1) := by decide +kernel
theorem dX9_alterRow_30 : decode cX9_alterRow 30 = .ok (.imul, 1) := by decide +kernel
theorem dX9_alterRow_31 : decode cX9_alterRow 31 = .ok (.iload_n 2, 1) := by decide +kernel
theorem dX9_alterRow_32 : decode cX9_alterRow 32 = .ok (.iadd, 1) := by decide +kernel
theorem dX9_alterRow_33 : decode cX9_alterRow 33 = .ok (.iload_n 3, 1) := by decide +kernel
theorem dX9_alterRow_34 : decode cX9_alterRow 34 = .ok (.iastore, 1) := by decide +kernel
theorem dX9_alterRow_35 : decode cX9_alterRow 35 = .ok (.iload 4, 2) := by decide +kernel
theorem dX9_alterRow_37 : decode cX9_alterRow 37 = .ok (.ireturn, 1) := by decide +kernel
set_option maxRecDepth 20000 in
theorem ggX9_judge_X9_isOne : GoodIn wsX9_judge wsX9_isOne := goodIn_r _ [9, 1, 52, 53, 54, 55, 56, 57, 58, 59, 60, 61, 62, 63, 64, 65, 66, 67, 68, 69, 70, 71, 72, 73, 74, 75, 76, 77, 78, 79, 80] (by decide +kernel) (by decide +kernel)
set_option maxRecDepth 20000 in
theorem gX9_judge_X9_isOne : GoodIn wsX9_judge (wsV RX9 130 RX9 yX9_isOne wsX9_isOne) := goodIn_app (goodIn_of _ (by decide +kernel)) ggX9_judge_X9_isOne
set_option maxRecDepth 20000 in
theorem ggX9_judge_X9_copyRow : GoodIn wsX9_judge wsX9_copyRow := goodIn_r _ [12] (by decide +kernel) (by decide +kernel)
set_option maxRecDepth 20000 in
theorem gX9_judge_X9_copyRow : GoodIn wsX9_judge (va_wsS RX9 150 yX9_copyRow wsX9_copyRow) := goodIn_app (goodIn_of _ (by decide +kernel)) ggX9_judge_X9_copyRow
set_option maxRecDepth 20000 in
theorem ggX9_judge_X9_goesOn : GoodIn wsX9_judge wsX9_goesOn := goodIn_r _ [16, 1, 17, 18, 19, 20, 8, 21, 22, 23, 24, 25, 26, 27, 28, 29, 30, 31, 32, 33, 34, 35, 36, 37, 38, 39, 40, 41, 42, 43, 44, 45, 46, 47, 48, 49, 50, 51, 52, 53, 54, 55, 56, 57, 58, 59, 60, 61, 62, 63, 64, 65, 66, 67, 68, 69, 70, 71, 72, 73, 74, 75, 76, 77, 78, 79, 80] (by decide +kernel) (by decide +kernel)
set_option maxRecDepth 20000 in
theorem gX9_judge_X9_goesOn : GoodIn wsX9_judge (wsV RX9 207 RX9 yX9_goesOn wsX9_goesOn) := goodIn_app (goodIn_of _ (by decide +kernel)) ggX9_judge_X9_goesOn
set_option maxRecDepth 20000 in
theorem ggX9_judge_X9_its : GoodIn wsX9_judge wsX9_its := goodIn_r _ [29, 1, 52, 53, 54, 55, 56, 57, 58, 59, 60, 61, 62, 63, 64, 65, 66, 67, 68, 69, 70, 71, 72, 73, 74, 75, 76, 77, 78, 79, 80] (by decide +kernel) (by decide +kernel)
set_option maxRecDepth 20000 in
theorem gX9_judge_X9_its : GoodIn wsX9_judge (wsV RX9 172 RX9 yX9_its wsX9_its) := goodIn_app (goodIn_of _ (by decide +kernel)) ggX9_judge_X9_its
theorem dX9_judge_0 : decode cX9_judge 0 = .ok (.aload_n 0, 1) := by decide +kernel
theorem dX9_judge_1 : decode cX9_judge 1 = .ok (.iload_n 1, 1) := by decide +kernel
theorem dX9_judge_2 : decode cX9_judge 2 = .ok (.invokevirtual 130, 3) := by decide +kernel
theorem dX9_judge_5 : decode cX9_judge 5 = .ok (.ifCond .ne 5, 3) := by decide +kernel
theorem dX9_judge_8 : decode cX9_judge 8 = .ok (.iconst (-1), 1) := by decide +kernel
theorem dX9_judge_9 : decode cX9_judge 9 = .ok (.ireturn, 1) := by decide +kernel
theorem dX9_judge_10 : decode cX9_judge 10 = .ok (.aload_n 0, 1) := by decide +kernel
theorem dX9_judge_11 : decode cX9_judge 11 = .ok (.getfield 7, 3) := by decide +kernel
theorem dX9_judge_14 : decode cX9_judge 14 = .ok (.aload_n 0, 1) := by decide +kernel
theorem dX9_judge_15 : decode cX9_judge 15 = .ok (.getfield 16, 3) := by decide +kernel
theorem dX9_judge_18 : decode cX9_judge 18 = .ok (.invokestatic 150, 3) := by decide +kernel
theorem dX9_judge_21 : decode cX9_judge 21 = .ok (.iconst 0, 1) := by decide +kernel
theorem dX9_judge_22 : decode cX9_judge 22 = .ok (.istore_n 2, 1) := by decide +kernel
theorem dX9_judge_23 : decode cX9_judge 23 = .ok (.iconst 1, 1) := by decide +kernel
theorem dX9_judge_24 : decode cX9_judge 24 = .ok (.istore_n 3, 1) := by decide +kernel
theorem dX9_judge_25 : decode cX9_judge 25 = .ok (.iload_n 2, 1) := by decide +kernel
theorem dX9_judge_26 : decode cX9_judge 26 = .ok (.aload_n 0, 1) := by decide +kernel
theorem dX9_judge_27 : decode cX9_judge 27 = .ok (.getfield 157, 3) := by decide +kernel
theorem dX9_judge_30 : decode cX9_judge 30 = .ok (.if_icmp .ge 72, 3) := by decide +kernel
theorem dX9_judge_33 : decode cX9_judge 33 = .ok (.iload_n 3, 1) := by decide +kernel
theorem dX9_judge_34 : decode cX9_judge 34 = .ok (.ifCond .eq 68, 3) := by decide +kernel
theorem dX9_judge_37 : decode cX9_judge 37 = .ok (.aload_n 0, 1) := by decide +kernel
theorem dX9_judge_38 : decode cX9_judge 38 = .ok (.getfield 31, 3) := by decide +kernel
theorem dX9_judge_41 : decode cX9_judge 41 = .ok (.iconst 3, 1) := by decide +kernel
theorem dX9_judge_42 : decode cX9_judge 42 = .ok (.iload_n 2, 1) := by decide +kernel
theorem dX9_judge_43 : decode cX9_judge 43 = .ok (.imul, 1) := by decide +kernel
theorem dX9_judge_44 : decode cX9_judge 44 = .ok (.iconst 2, 1) := by decide +kernel
theorem dX9_judge_45 : decode cX9_judge 45 = .ok (.iadd, 1) := by decide +kernel
theorem dX9_judge_46 : decode cX9_judge 46 = .ok (.iaload, 1) := by decide +kernel
theorem dX9_judge_47 : decode cX9_judge 47 = .ok (.aload_n 0, 1) := by decide +kernel
theorem dX9_judge_48 : decode cX9_judge 48 = .ok (.invokevirtual 207, 3) := by decide +kernel
theorem dX9_judge_51 : decode cX9_judge 51 = .ok (.if_icmp .ne 43, 3) := by decide +kernel
theorem dX9_judge_54 : decode cX9_judge 54 = .ok (.aload_n 0, 1) := by decide +kernel
theorem dX9_judge_55 : decode cX9_judge 55 = .ok (.getfield 31, 3) := by decide +kernel
theorem dX9_judge_58 : decode cX9_judge 58 = .ok (.iconst 3, 1) := by decide +kernel
theorem dX9_judge_59 : decode cX9_judge 59 = .ok (.iload_n 2, 1) := by decide +kernel
theorem dX9_judge_60 : decode cX9_judge 60 = .ok (.imul, 1) := by decide +kernel
theorem dX9_judge_61 : decode cX9_judge 61 = .ok (.iaload, 1) := by decide +kernel
theorem dX9_judge_62 : decode cX9_judge 62 = .ok (.aload_n 0, 1) := by decide +kernel
theorem dX9_judge_63 : decode cX9_judge 63 = .ok (.iload_n 1, 1) := by decide +kernel
theorem dX9_judge_64 : decode cX9_judge 64 = .ok (.iconst 1, 1) := by decide +kernel
theorem dX9_judge_65 : decode cX9_judge 65 = .ok (.invokevirtual 172, 3) := by decide +kernel
theorem dX9_judge_68 : decode cX9_judge 68 = .ok (.if_icmp .ne 26, 3) := by decide +kernel
theorem dX9_judge_71 : decode cX9_judge 71 = .ok (.aload_n 0, 1) := by decide +kernel
theorem dX9_judge_72 : decode cX9_judge 72 = .ok (.getfield 31, 3) := by decide +kernel
theorem dX9_judge_75 : decode cX9_judge 75 = .ok (.iconst 3, 1) := by decide +kernel
theorem dX9_judge_76 : decode cX9_judge 76 = .ok (.iload_n 2, 1) := by decide +kernel
theorem dX9_judge_77 : decode cX9_judge 77 = .ok (.imul, 1) := by decide +kernel
theorem dX9_judge_78 : decode cX9_judge 78 = .ok (.iconst 1, 1) := by decide +kernel
theorem dX9_judge_79 : decode cX9_judge 79 = .ok (.iadd, 1) := by decide +kernel
theorem dX9_judge_80 : decode cX9_judge 80 = .ok (.iaload, 1) := by decide +kernel
theorem dX9_judge_81 : decode cX9_judge 81 = .ok (.aload_n 0, 1) := by decide +kernel
theorem dX9_judge_82 : decode cX9_judge 82 = .ok (.iload_n 1, 1) := by decide +kernel
theorem dX9_judge_83 : decode cX9_judge 83 = .ok (.iconst 2, 1) := by decide +kernel
theorem dX9_judge_84 : decode cX9_judge 84 = .ok (.invokevirtual 172, 3) := by decide +kernel
theorem dX9_judge_87 : decode cX9_judge 87 = .ok (.if_icmp .ne 7, 3) := by decide +kernel
theorem dX9_judge_90 : decode cX9_judge 90 = .ok (.iconst 1, 1) := by decide +kernel
theorem dX9_judge_91 : decode cX9_judge 91 = .ok (.goto 4, 3) := by decide +kernel
theorem dX9_judge_94 : decode cX9_judge 94 = .ok (.iconst 0, 1) := by decide +kernel
theorem dX9_judge_95 : decode cX9_judge 95 = .ok (.istore_n 3, 1) := by decide +kernel
theorem dX9_judge_96 : decode cX9_judge 96 = .ok (.iinc 2 1, 3) := by decide +kernel
theorem dX9_judge_99 : decode cX9_judge 99 = .ok (.goto (-74), 3) := by decide +kernel
theorem dX9_judge_102 : decode cX9_judge 102 = .ok (.aload_n 0, 1) := by decide +kernel
theorem dX9_judge_103 : decode cX9_judge 103 = .ok (.getfield 16, 3) := by decide +kernel
theorem dX9_judge_106 : decode cX9_judge 106 = .ok (.aload_n 0, 1) := by decide +kernel
theorem dX9_judge_107 : decode cX9_judge 107 = .ok (.getfield 7, 3) := by decide +kernel
theorem dX9_judge_110 : decode cX9_judge 110 = .ok (.invokestatic 150, 3) := by decide +kernel
theorem dX9_judge_113 : decode cX9_judge 113 = .ok (.iload_n 3, 1) := by decide +kernel
theorem dX9_judge_114 : decode cX9_judge 114 = .ok (.ifCond .eq 7, 3) := by decide +kernel
theorem dX9_judge_117 : decode cX9_judge 117 = .ok (.iconst 0, 1) := by decide +kernel
theorem dX9_judge_118 : decode cX9_judge 118 = .ok (.goto 4, 3) := by decide +kernel
theorem dX9_judge_121 : decode cX9_judge 121 = .ok (.iload_n 2, 1) := by decide +kernel
theorem dX9_judge_122 : decode cX9_judge 122 = .ok (.ireturn, 1) := by decide +kernel
set_option maxRecDepth 20000 in
theorem ggX9_isSheet_X9_isIn : GoodIn wsX9_isSheet wsX9_isIn := goodIn_r _ [5] (by decide +kernel) (by decide +kernel)
set_option maxRecDepth 20000 in
theorem gX9_isSheet_X9_isIn : GoodIn wsX9_isSheet (va_wsS RX9 60 yX9_isIn wsX9_isIn) := goodIn_app (goodIn_of _ (by decide +kernel)) ggX9_isSheet_X9_isIn
theorem dX9_isSheet_0 : decode cX9_isSheet 0 = .ok (.iload_n 0, 1) := by decide +kernel
theorem dX9_isSheet_1 : decode cX9_isSheet 1 = .ok (.i2l, 1) := by decide +kernel
theorem dX9_isSheet_2 : decode cX9_isSheet 2 = .ok (.lconst 0, 1) := by decide +kernel
theorem dX9_isSheet_3 : decode cX9_isSheet 3 = .ok (.ldc2_w 160, 3) := by decide +kernel
theorem dX9_isSheet_6 : decode cX9_isSheet 6 = .ok (.invokestatic 60, 3) := by decide +kernel
theorem dX9_isSheet_9 : decode cX9_isSheet 9 = .ok (.ireturn, 1) := by decide +kernel
set_option maxRecDepth 20000 in
theorem ggX9_isShelf_X9_isIn : GoodIn wsX9_isShelf wsX9_isIn := goodIn_r _ [5] (by decide +kernel) (by decide +kernel)
set_option maxRecDepth 20000 in
theorem gX9_isShelf_X9_isIn : GoodIn wsX9_isShelf (va_wsS RX9 60 yX9_isIn wsX9_isIn) := goodIn_app (goodIn_of _ (by decide +kernel)) ggX9_isShelf_X9_isIn
theorem dX9_isShelf_0 : decode cX9_isShelf 0 = .ok (.iload_n 0, 1) := by decide +kernel
theorem dX9_isShelf_1 : decode cX9_isShelf 1 = .ok (.i2l, 1) := by decide +kernel
theorem dX9_isShelf_2 : decode cX9_isShelf 2 = .ok (.lconst 0, 1) := by decide +kernel
theorem dX9_isShelf_3 : decode cX9_isShelf 3 = .ok (.ldc2_w 160, 3) := by decide +kernel
theorem dX9_isShelf_6 : decode cX9_isShelf 6 = .ok (.invokestatic 60, 3) := by decide +kernel
theorem dX9_isShelf_9 : decode cX9_isShelf 9 = .ok (.ireturn, 1) := by decide +kernel
set_option maxRecDepth 20000 in
theorem ggX9_sheet_X9_isSheet : GoodIn wsX9_sheet wsX9_isSheet := goodIn_r _ [9, 2, 10, 11, 8, 12] (by decide +kernel) (by decide +kernel)
set_option maxRecDepth 20000 in
theorem gX9_sheet_X9_isSheet : GoodIn wsX9_sheet (va_wsS RX9 251 yX9_isSheet wsX9_isSheet) := goodIn_app (goodIn_of _ (by decide +kernel)) ggX9_sheet_X9_isSheet
set_option maxRecDepth 20000 in
theorem ggX9_sheet_X9_isIn : GoodIn wsX9_sheet wsX9_isIn := goodIn_r _ [12] (by decide +kernel) (by decide +kernel)
set_option maxRecDepth 20000 in
theorem gX9_sheet_X9_isIn : GoodIn wsX9_sheet (va_wsS RX9 60 yX9_isIn wsX9_isIn) := goodIn_app (goodIn_of _ (by decide +kernel)) ggX9_sheet_X9_isIn
theorem dX9_sheet_0 : decode cX9_sheet 0 = .ok (.iload_n 1, 1) := by decide +kernel
theorem dX9_sheet_1 : decode cX9_sheet 1 = .ok (.invokestatic 251, 3) := by decide +kernel
theorem dX9_sheet_4 : decode cX9_sheet 4 = .ok (.ifCond .eq 27, 3) := by decide +kernel
theorem dX9_sheet_7 : decode cX9_sheet 7 = .ok (.iload_n 2, 1) := by decide +kernel
theorem dX9_sheet_8 : decode cX9_sheet 8 = .ok (.i2l, 1) := by decide +kernel
theorem dX9_sheet_9 : decode cX9_sheet 9 = .ok (.ldc2_w 258, 3) := by decide +kernel
theorem dX9_sheet_12 : decode cX9_sheet 12 = .ok (.ldc2_w 160, 3) := by decide +kernel
theorem dX9_sheet_15 : decode cX9_sheet 15 = .ok (.invokestatic 60, 3) := by decide +kernel
theorem dX9_sheet_18 : decode cX9_sheet 18 = .ok (.ifCond .eq 13, 3) := by decide +kernel
theorem dX9_sheet_21 : decode cX9_sheet 21 = .ok (.iload_n 2, 1) := by decide +kernel
theorem dX9_sheet_22 : decode cX9_sheet 22 = .ok (.ifCond .lt 11, 3) := by decide +kernel
theorem dX9_sheet_25 : decode cX9_sheet 25 = .ok (.iload_n 3, 1) := by decide +kernel
theorem dX9_sheet_26 : decode cX9_sheet 26 = .ok (.bipush 40, 2) := by decide +kernel
theorem dX9_sheet_28 : decode cX9_sheet 28 = .ok (.if_icmp .le 5, 3) := by decide +kernel
theorem dX9_sheet_31 : decode cX9_sheet 31 = .ok (.iconst (-1), 1) := by decide +kernel
theorem dX9_sheet_32 : decode cX9_sheet 32 = .ok (.ireturn, 1) := by decide +kernel
theorem dX9_sheet_33 : decode cX9_sheet 33 = .ok (.iload_n 2, 1) := by decide +kernel
theorem dX9_sheet_34 : decode cX9_sheet 34 = .ok (.ifCond .lt 10, 3) := by decide +kernel
theorem dX9_sheet_37 : decode cX9_sheet 37 = .ok (.iload_n 3, 1) := by decide +kernel
theorem dX9_sheet_38 : decode cX9_sheet 38 = .ok (.ifCond .ge 6, 3) := by decide +kernel
theorem dX9_sheet_41 : decode cX9_sheet 41 = .ok (.bipush (-14), 2) := by decide +kernel
theorem dX9_sheet_43 : decode cX9_sheet 43 = .ok (.ireturn, 1) := by decide +kernel
theorem dX9_sheet_44 : decode cX9_sheet 44 = .ok (.aload_n 0, 1) := by decide +kernel
theorem dX9_sheet_45 : decode cX9_sheet 45 = .ok (.getfield 34, 3) := by decide +kernel
theorem dX9_sheet_48 : decode cX9_sheet 48 = .ok (.iload_n 1, 1) := by decide +kernel
theorem dX9_sheet_49 : decode cX9_sheet 49 = .ok (.iload_n 2, 1) := by decide +kernel
theorem dX9_sheet_50 : decode cX9_sheet 50 = .ok (.iastore, 1) := by decide +kernel
theorem dX9_sheet_51 : decode cX9_sheet 51 = .ok (.aload_n 0, 1) := by decide +kernel
theorem dX9_sheet_52 : decode cX9_sheet 52 = .ok (.getfield 37, 3) := by decide +kernel
theorem dX9_sheet_55 : decode cX9_sheet 55 = .ok (.iload_n 1, 1) := by decide +kernel
theorem dX9_sheet_56 : decode cX9_sheet 56 = .ok (.iload_n 2, 1) := by decide +kernel
theorem dX9_sheet_57 : decode cX9_sheet 57 = .ok (.ifCond .ge 7, 3) := by decide +kernel
theorem dX9_sheet_60 : decode cX9_sheet 60 = .ok (.iconst 0, 1) := by decide +kernel
theorem dX9_sheet_61 : decode cX9_sheet 61 = .ok (.goto 4, 3) := by decide +kernel
theorem dX9_sheet_64 : decode cX9_sheet 64 = .ok (.iload_n 3, 1) := by decide +kernel
theorem dX9_sheet_65 : decode cX9_sheet 65 = .ok (.iastore, 1) := by decide +kernel
theorem dX9_sheet_66 : decode cX9_sheet 66 = .ok (.iconst 0, 1) := by decide +kernel
theorem dX9_sheet_67 : decode cX9_sheet 67 = .ok (.istore 4, 2) := by decide +kernel
theorem dX9_sheet_69 : decode cX9_sheet 69 = .ok (.iload 4, 2) := by decide +kernel
theorem dX9_sheet_71 : decode cX9_sheet 71 = .ok (.bipush 40, 2) := by decide +kernel
theorem dX9_sheet_73 : decode cX9_sheet 73 = .ok (.if_icmp .ge 22, 3) := by decide +kernel
theorem dX9_sheet_76 : decode cX9_sheet 76 = .ok (.aload_n 0, 1) := by decide +kernel
theorem dX9_sheet_77 : decode cX9_sheet 77 = .ok (.getfield 40, 3) := by decide +kernel
theorem dX9_sheet_80 : decode cX9_sheet 80 = .ok (.bipush 40, 2) := by decide +kernel
theorem dX9_sheet_82 : decode cX9_sheet 82 = .ok (.iload_n 1, 1) := by decide +kernel
theorem dX9_sheet_83 : decode cX9_sheet 83 = .ok (.imul, 1) := by decide +kernel
theorem dX9_sheet_84 : decode cX9_sheet 84 = .ok (.iload 4, 2) := by decide +kernel
theorem dX9_sheet_86 : decode cX9_sheet 86 = .ok (.iadd, 1) := by decide +kernel
theorem dX9_sheet_87 : decode cX9_sheet 87 = .ok (.iconst 0, 1) := by decide +kernel
theorem dX9_sheet_88 : decode cX9_sheet 88 = .ok (.iastore, 1) := by decide +kernel
theorem dX9_sheet_89 : decode cX9_sheet 89 = .ok (.iinc 4 1, 3) := by decide +kernel
theorem dX9_sheet_92 : decode cX9_sheet 92 = .ok (.goto (-23), 3) := by decide +kernel
theorem dX9_sheet_95 : decode cX9_sheet 95 = .ok (.iconst 1, 1) := by decide +kernel
theorem dX9_sheet_96 : decode cX9_sheet 96 = .ok (.ireturn, 1) := by decide +kernel
set_option maxRecDepth 20000 in
theorem ggX9_put_X9_isSheet : GoodIn wsX9_put wsX9_isSheet := goodIn_r _ [7, 8, 9, 10, 6, 11] (by decide +kernel) (by decide +kernel)
set_option maxRecDepth 20000 in
theorem gX9_put_X9_isSheet : GoodIn wsX9_put (va_wsS RX9 251 yX9_isSheet wsX9_isSheet) := goodIn_app (goodIn_of _ (by decide +kernel)) ggX9_put_X9_isSheet
set_option maxRecDepth 20000 in
theorem ggX9_put_X9_isIn : GoodIn wsX9_put wsX9_isIn := goodIn_r _ [11] (by decide +kernel) (by decide +kernel)
set_option maxRecDepth 20000 in
theorem gX9_put_X9_isIn : GoodIn wsX9_put (va_wsS RX9 60 yX9_isIn wsX9_isIn) := goodIn_app (goodIn_of _ (by decide +kernel)) ggX9_put_X9_isIn
theorem dX9_put_0 : decode cX9_put 0 = .ok (.iload_n 1, 1) := by decide +kernel
theorem dX9_put_1 : decode cX9_put 1 = .ok (.invokestatic 251, 3) := by decide +kernel
theorem dX9_put_4 : decode cX9_put 4 = .ok (.ifCond .ne 5, 3) := by decide +kernel
theorem dX9_put_7 : decode cX9_put 7 = .ok (.iconst (-1), 1) := by decide +kernel
theorem dX9_put_8 : decode cX9_put 8 = .ok (.ireturn, 1) := by decide +kernel
theorem dX9_put_9 : decode cX9_put 9 = .ok (.aload_n 0, 1) := by decide +kernel
theorem dX9_put_10 : decode cX9_put 10 = .ok (.getfield 34, 3) := by decide +kernel
theorem dX9_put_13 : decode cX9_put 13 = .ok (.iload_n 1, 1) := by decide +kernel
theorem dX9_put_14 : decode cX9_put 14 = .ok (.iaload, 1) := by decide +kernel
theorem dX9_put_15 : decode cX9_put 15 = .ok (.ifCond .ge 6, 3) := by decide +kernel
theorem dX9_put_18 : decode cX9_put 18 = .ok (.bipush (-11), 2) := by decide +kernel
theorem dX9_put_20 : decode cX9_put 20 = .ok (.ireturn, 1) := by decide +kernel
theorem dX9_put_21 : decode cX9_put 21 = .ok (.iload_n 2, 1) := by decide +kernel
theorem dX9_put_22 : decode cX9_put 22 = .ok (.i2l, 1) := by decide +kernel
theorem dX9_put_23 : decode cX9_put 23 = .ok (.lconst 0, 1) := by decide +kernel
theorem dX9_put_24 : decode cX9_put 24 = .ok (.aload_n 0, 1) := by decide +kernel
theorem dX9_put_25 : decode cX9_put 25 = .ok (.getfield 37, 3) := by decide +kernel
theorem dX9_put_28 : decode cX9_put 28 = .ok (.iload_n 1, 1) := by decide +kernel
theorem dX9_put_29 : decode cX9_put 29 = .ok (.iaload, 1) := by decide +kernel
theorem dX9_put_30 : decode cX9_put 30 = .ok (.iconst 1, 1) := by decide +kernel
theorem dX9_put_31 : decode cX9_put 31 = .ok (.isub, 1) := by decide +kernel
theorem dX9_put_32 : decode cX9_put 32 = .ok (.i2l, 1) := by decide +kernel
theorem dX9_put_33 : decode cX9_put 33 = .ok (.invokestatic 60, 3) := by decide +kernel
theorem dX9_put_36 : decode cX9_put 36 = .ok (.ifCond .ne 6, 3) := by decide +kernel
theorem dX9_put_39 : decode cX9_put 39 = .ok (.bipush (-12), 2) := by decide +kernel
theorem dX9_put_41 : decode cX9_put 41 = .ok (.ireturn, 1) := by decide +kernel
theorem dX9_put_42 : decode cX9_put 42 = .ok (.aload_n 0, 1) := by decide +kernel
theorem dX9_put_43 : decode cX9_put 43 = .ok (.getfield 40, 3) := by decide +kernel
theorem dX9_put_46 : decode cX9_put 46 = .ok (.bipush 40, 2) := by decide +kernel
theorem dX9_put_48 : decode cX9_put 48 = .ok (.iload_n 1, 1) := by decide +kernel
theorem dX9_put_49 : decode cX9_put 49 = .ok (.imul, 1) := by decide +kernel
theorem dX9_put_50 : decode cX9_put 50 = .ok (.iload_n 2, 1) := by decide +kernel
theorem dX9_put_51 : decode cX9_put 51 = .ok (.iadd, 1) := by decide +kernel
theorem dX9_put_52 : decode cX9_put 52 = .ok (.aload_n 0, 1) := by decide +kernel
theorem dX9_put_53 : decode cX9_put 53 = .ok (.getfield 34, 3) := by decide +kernel
theorem dX9_put_56 : decode cX9_put 56 = .ok (.iload_n 1, 1) := by decide +kernel
theorem dX9_put_57 : decode cX9_put 57 = .ok (.iaload, 1) := by decide +kernel
theorem dX9_put_58 : decode cX9_put 58 = .ok (.ifCond .ne 8, 3) := by decide +kernel
theorem dX9_put_61 : decode cX9_put 61 = .ok (.iload_n 3, 1) := by decide +kernel
theorem dX9_put_62 : decode cX9_put 62 = .ok (.i2b, 1) := by decide +kernel
theorem dX9_put_63 : decode cX9_put 63 = .ok (.goto 19, 3) := by decide +kernel
theorem dX9_put_66 : decode cX9_put 66 = .ok (.aload_n 0, 1) := by decide +kernel
theorem dX9_put_67 : decode cX9_put 67 = .ok (.getfield 34, 3) := by decide +kernel
theorem dX9_put_70 : decode cX9_put 70 = .ok (.iload_n 1, 1) := by decide +kernel
theorem dX9_put_71 : decode cX9_put 71 = .ok (.iaload, 1) := by decide +kernel
theorem dX9_put_72 : decode cX9_put 72 = .ok (.iconst 1, 1) := by decide +kernel
theorem dX9_put_73 : decode cX9_put 73 = .ok (.if_icmp .ne 8, 3) := by decide +kernel
theorem dX9_put_76 : decode cX9_put 76 = .ok (.iload_n 3, 1) := by decide +kernel
theorem dX9_put_77 : decode cX9_put 77 = .ok (.i2s, 1) := by decide +kernel
theorem dX9_put_78 : decode cX9_put 78 = .ok (.goto 4, 3) := by decide +kernel
theorem dX9_put_81 : decode cX9_put 81 = .ok (.iload_n 3, 1) := by decide +kernel
theorem dX9_put_82 : decode cX9_put 82 = .ok (.iastore, 1) := by decide +kernel
theorem dX9_put_83 : decode cX9_put 83 = .ok (.iconst 1, 1) := by decide +kernel
theorem dX9_put_84 : decode cX9_put 84 = .ok (.ireturn, 1) := by decide +kernel
theorem dX9_lacks_0 : decode cX9_lacks 0 = .ok (.aload_n 0, 1) := by decide +kernel
theorem dX9_lacks_1 : decode cX9_lacks 1 = .ok (.getfield 34, 3) := by decide +kernel
theorem dX9_lacks_4 : decode cX9_lacks 4 = .ok (.iload_n 1, 1) := by decide +kernel
theorem dX9_lacks_5 : decode cX9_lacks 5 = .ok (.iaload, 1) := by decide +kernel
theorem dX9_lacks_6 : decode cX9_lacks 6 = .ok (.ifCond .ge 8, 3) := by decide +kernel
theorem dX9_lacks_9 : decode cX9_lacks 9 = .ok (.bipush (-11), 2) := by decide +kernel
theorem dX9_lacks_11 : decode cX9_lacks 11 = .ok (.goto 19, 3) := by decide +kernel
theorem dX9_lacks_14 : decode cX9_lacks 14 = .ok (.aload_n 0, 1) := by decide +kernel
theorem dX9_lacks_15 : decode cX9_lacks 15 = .ok (.getfield 34, 3) := by decide +kernel
theorem dX9_lacks_18 : decode cX9_lacks 18 = .ok (.iload_n 1, 1) := by decide +kernel
theorem dX9_lacks_19 : decode cX9_lacks 19 = .ok (.iaload, 1) := by decide +kernel
theorem dX9_lacks_20 : decode cX9_lacks 20 = .ok (.iload_n 2, 1) := by decide +kernel
theorem dX9_lacks_21 : decode cX9_lacks 21 = .ok (.if_icmp .eq 8, 3) := by decide +kernel
theorem dX9_lacks_24 : decode cX9_lacks 24 = .ok (.bipush (-13), 2) := by decide +kernel
theorem dX9_lacks_26 : decode cX9_lacks 26 = .ok (.goto 4, 3) := by decide +kernel
theorem dX9_lacks_29 : decode cX9_lacks 29 = .ok (.iconst 0, 1) := by decide +kernel
theorem dX9_lacks_30 : decode cX9_lacks 30 = .ok (.ireturn, 1) := by decide +kernel
set_option maxRecDepth 20000 in
theorem ggX9_item_X9_isSheet : GoodIn wsX9_item wsX9_isSheet := goodIn_r _ [7, 1, 8, 9, 6, 10] (by decide +kernel) (by decide +kernel)
set_option maxRecDepth 20000 in
theorem gX9_item_X9_isSheet : GoodIn wsX9_item (va_wsS RX9 251 yX9_isSheet wsX9_isSheet) := goodIn_app (goodIn_of _ (by decide +kernel)) ggX9_item_X9_isSheet
set_option maxRecDepth 20000 in
theorem ggX9_item_X9_isIn : GoodIn wsX9_item wsX9_isIn := goodIn_r _ [10] (by decide +kernel) (by decide +kernel)
set_option maxRecDepth 20000 in
theorem gX9_item_X9_isIn : GoodIn wsX9_item (va_wsS RX9 60 yX9_isIn wsX9_isIn) := goodIn_app (goodIn_of _ (by decide +kernel)) ggX9_item_X9_isIn
set_option maxRecDepth 20000 in
theorem ggX9_item_X9_lacks : GoodIn wsX9_item wsX9_lacks := goodIn_r _ [14, 15, 16, 17, 18, 19, 20, 21, 22, 23, 24, 25, 26, 27, 28, 29, 30, 31, 32, 33, 34, 35, 36, 37, 38, 39, 40, 41, 42, 43, 44] (by decide +kernel) (by decide +kernel)
set_option maxRecDepth 20000 in
theorem gX9_item_X9_lacks : GoodIn wsX9_item (wsV RX9 275 RX9 yX9_lacks wsX9_lacks) := goodIn_app (goodIn_of _ (by decide +kernel)) ggX9_item_X9_lacks
theorem dX9_item_0 : decode cX9_item 0 = .ok (.iload_n 1, 1) := by decide +kernel
theorem dX9_item_1 : decode cX9_item 1 = .ok (.invokestatic 251, 3) := by decide +kernel
theorem dX9_item_4 : decode cX9_item 4 = .ok (.ifCond .eq 15, 3) := by decide +kernel
theorem dX9_item_7 : decode cX9_item 7 = .ok (.iload_n 2, 1) := by decide +kernel
theorem dX9_item_8 : decode cX9_item 8 = .ok (.i2l, 1) := by decide +kernel
theorem dX9_item_9 : decode cX9_item 9 = .ok (.lconst 0, 1) := by decide +kernel
theorem dX9_item_10 : decode cX9_item 10 = .ok (.ldc2_w 160, 3) := by decide +kernel
theorem dX9_item_13 : decode cX9_item 13 = .ok (.invokestatic 60, 3) := by decide +kernel
theorem dX9_item_16 : decode cX9_item 16 = .ok (.ifCond .ne 5, 3) := by decide +kernel
theorem dX9_item_19 : decode cX9_item 19 = .ok (.iconst (-1), 1) := by decide +kernel
theorem dX9_item_20 : decode cX9_item 20 = .ok (.ireturn, 1) := by decide +kernel
theorem dX9_item_21 : decode cX9_item 21 = .ok (.aload_n 0, 1) := by decide +kernel
theorem dX9_item_22 : decode cX9_item 22 = .ok (.iload_n 1, 1) := by decide +kernel
theorem dX9_item_23 : decode cX9_item 23 = .ok (.iload_n 2, 1) := by decide +kernel
theorem dX9_item_24 : decode cX9_item 24 = .ok (.invokevirtual 275, 3) := by decide +kernel
theorem dX9_item_27 : decode cX9_item 27 = .ok (.ifCond .eq 10, 3) := by decide +kernel
theorem dX9_item_30 : decode cX9_item 30 = .ok (.aload_n 0, 1) := by decide +kernel
theorem dX9_item_31 : decode cX9_item 31 = .ok (.iload_n 1, 1) := by decide +kernel
theorem dX9_item_32 : decode cX9_item 32 = .ok (.iload_n 2, 1) := by decide +kernel
theorem dX9_item_33 : decode cX9_item 33 = .ok (.invokevirtual 275, 3) := by decide +kernel
theorem dX9_item_36 : decode cX9_item 36 = .ok (.ireturn, 1) := by decide +kernel
theorem dX9_item_37 : decode cX9_item 37 = .ok (.iload_n 3, 1) := by decide +kernel
theorem dX9_item_38 : decode cX9_item 38 = .ok (.i2l, 1) := by decide +kernel
theorem dX9_item_39 : decode cX9_item 39 = .ok (.lconst 0, 1) := by decide +kernel
theorem dX9_item_40 : decode cX9_item 40 = .ok (.aload_n 0, 1) := by decide +kernel
theorem dX9_item_41 : decode cX9_item 41 = .ok (.getfield 37, 3) := by decide +kernel
theorem dX9_item_44 : decode cX9_item 44 = .ok (.iload_n 1, 1) := by decide +kernel
theorem dX9_item_45 : decode cX9_item 45 = .ok (.iaload, 1) := by decide +kernel
theorem dX9_item_46 : decode cX9_item 46 = .ok (.iconst 1, 1) := by decide +kernel
theorem dX9_item_47 : decode cX9_item 47 = .ok (.isub, 1) := by decide +kernel
theorem dX9_item_48 : decode cX9_item 48 = .ok (.i2l, 1) := by decide +kernel
theorem dX9_item_49 : decode cX9_item 49 = .ok (.invokestatic 60, 3) := by decide +kernel
theorem dX9_item_52 : decode cX9_item 52 = .ok (.ifCond .eq 17, 3) := by decide +kernel
theorem dX9_item_55 : decode cX9_item 55 = .ok (.aload_n 0, 1) := by decide +kernel
theorem dX9_item_56 : decode cX9_item 56 = .ok (.getfield 40, 3) := by decide +kernel
theorem dX9_item_59 : decode cX9_item 59 = .ok (.bipush 40, 2) := by decide +kernel
theorem dX9_item_61 : decode cX9_item 61 = .ok (.iload_n 1, 1) := by decide +kernel
theorem dX9_item_62 : decode cX9_item 62 = .ok (.imul, 1) := by decide +kernel
theorem dX9_item_63 : decode cX9_item 63 = .ok (.iload_n 3, 1) := by decide +kernel
theorem dX9_item_64 : decode cX9_item 64 = .ok (.iadd, 1) := by decide +kernel
theorem dX9_item_65 : decode cX9_item 65 = .ok (.iaload, 1) := by decide +kernel
theorem dX9_item_66 : decode cX9_item 66 = .ok (.goto 5, 3) := by decide +kernel
theorem dX9_item_69 : decode cX9_item 69 = .ok (.bipush (-12), 2) := by decide +kernel
theorem dX9_item_71 : decode cX9_item 71 = .ok (.ireturn, 1) := by decide +kernel
set_option maxRecDepth 20000 in
theorem ggX9_minds_X9_isSheet : GoodIn wsX9_minds wsX9_isSheet := goodIn_r _ [8, 9, 10, 11, 7, 12] (by decide +kernel) (by decide +kernel)
set_option maxRecDepth 20000 in
theorem gX9_minds_X9_isSheet : GoodIn wsX9_minds (va_wsS RX9 251 yX9_isSheet wsX9_isSheet) := goodIn_app (goodIn_of _ (by decide +kernel)) ggX9_minds_X9_isSheet
set_option maxRecDepth 20000 in
theorem ggX9_minds_X9_isOne : GoodIn wsX9_minds wsX9_isOne := goodIn_r _ [16, 2, 25, 26, 27, 28, 29, 30, 31, 32, 33, 34, 35, 36, 37, 38, 39, 40, 41, 42, 43, 44, 45, 46, 47, 48, 49, 50, 51, 52, 53] (by decide +kernel) (by decide +kernel)
set_option maxRecDepth 20000 in
theorem gX9_minds_X9_isOne : GoodIn wsX9_minds (wsV RX9 130 RX9 yX9_isOne wsX9_isOne) := goodIn_app (goodIn_of _ (by decide +kernel)) ggX9_minds_X9_isOne
set_option maxRecDepth 20000 in
theorem ggX9_minds_X9_isIn : GoodIn wsX9_minds wsX9_isIn := goodIn_r _ [12] (by decide +kernel) (by decide +kernel)
set_option maxRecDepth 20000 in
theorem gX9_minds_X9_isIn : GoodIn wsX9_minds (va_wsS RX9 60 yX9_isIn wsX9_isIn) := goodIn_app (goodIn_of _ (by decide +kernel)) ggX9_minds_X9_isIn
set_option maxRecDepth 20000 in
theorem ggX9_minds_X9_lacks : GoodIn wsX9_minds wsX9_lacks := goodIn_r _ [20, 21, 25, 26, 27, 28, 29, 30, 31, 32, 33, 34, 35, 36, 37, 38, 39, 40, 41, 42, 43, 44, 45, 46, 47, 48, 49, 50, 51, 52, 53] (by decide +kernel) (by decide +kernel)
set_option maxRecDepth 20000 in
theorem gX9_minds_X9_lacks : GoodIn wsX9_minds (wsV RX9 275 RX9 yX9_lacks wsX9_lacks) := goodIn_app (goodIn_of _ (by decide +kernel)) ggX9_minds_X9_lacks
set_option maxRecDepth 20000 in
theorem ggX9_minds_X9_within : GoodIn wsX9_minds wsX9_within := goodIn_r _ [24] (by decide +kernel) (by decide +kernel)
set_option maxRecDepth 20000 in
theorem gX9_minds_X9_within : GoodIn wsX9_minds (va_wsS RX9 278 yX9_within wsX9_within) := goodIn_app (goodIn_of _ (by decide +kernel)) ggX9_minds_X9_within
theorem dX9_minds_0 : decode cX9_minds 0 = .ok (.iload_n 1, 1) := by decide +kernel
theorem dX9_minds_1 : decode cX9_minds 1 = .ok (.invokestatic 251, 3) := by decide +kernel
theorem dX9_minds_4 : decode cX9_minds 4 = .ok (.ifCond .eq 37, 3) := by decide +kernel
theorem dX9_minds_7 : decode cX9_minds 7 = .ok (.aload_n 0, 1) := by decide +kernel
theorem dX9_minds_8 : decode cX9_minds 8 = .ok (.iload_n 3, 1) := by decide +kernel
theorem dX9_minds_9 : decode cX9_minds 9 = .ok (.invokevirtual 130, 3) := by decide +kernel
theorem dX9_minds_12 : decode cX9_minds 12 = .ok (.ifCond .eq 29, 3) := by decide +kernel
theorem dX9_minds_15 : decode cX9_minds 15 = .ok (.iload 4, 2) := by decide +kernel
theorem dX9_minds_17 : decode cX9_minds 17 = .ok (.i2l, 1) := by decide +kernel
theorem dX9_minds_18 : decode cX9_minds 18 = .ok (.lconst 0, 1) := by decide +kernel
theorem dX9_minds_19 : decode cX9_minds 19 = .ok (.ldc2_w 58, 3) := by decide +kernel
theorem dX9_minds_22 : decode cX9_minds 22 = .ok (.invokestatic 60, 3) := by decide +kernel
theorem dX9_minds_25 : decode cX9_minds 25 = .ok (.ifCond .eq 16, 3) := by decide +kernel
theorem dX9_minds_28 : decode cX9_minds 28 = .ok (.iload_n 3, 1) := by decide +kernel
theorem dX9_minds_29 : decode cX9_minds 29 = .ok (.iload 4, 2) := by decide +kernel
theorem dX9_minds_31 : decode cX9_minds 31 = .ok (.iadd, 1) := by decide +kernel
theorem dX9_minds_32 : decode cX9_minds 32 = .ok (.aload_n 0, 1) := by decide +kernel
theorem dX9_minds_33 : decode cX9_minds 33 = .ok (.getfield 7, 3) := by decide +kernel
theorem dX9_minds_36 : decode cX9_minds 36 = .ok (.iconst 0, 1) := by decide +kernel
theorem dX9_minds_37 : decode cX9_minds 37 = .ok (.iaload, 1) := by decide +kernel
theorem dX9_minds_38 : decode cX9_minds 38 = .ok (.if_icmp .le 5, 3) := by decide +kernel
theorem dX9_minds_41 : decode cX9_minds 41 = .ok (.iconst (-1), 1) := by decide +kernel
theorem dX9_minds_42 : decode cX9_minds 42 = .ok (.ireturn, 1) := by decide +kernel
theorem dX9_minds_43 : decode cX9_minds 43 = .ok (.aload_n 0, 1) := by decide +kernel
theorem dX9_minds_44 : decode cX9_minds 44 = .ok (.iload_n 1, 1) := by decide +kernel
theorem dX9_minds_45 : decode cX9_minds 45 = .ok (.iconst 0, 1) := by decide +kernel
theorem dX9_minds_46 : decode cX9_minds 46 = .ok (.invokevirtual 275, 3) := by decide +kernel
theorem dX9_minds_49 : decode cX9_minds 49 = .ok (.ifCond .eq 10, 3) := by decide +kernel
theorem dX9_minds_52 : decode cX9_minds 52 = .ok (.aload_n 0, 1) := by decide +kernel
theorem dX9_minds_53 : decode cX9_minds 53 = .ok (.iload_n 1, 1) := by decide +kernel
theorem dX9_minds_54 : decode cX9_minds 54 = .ok (.iconst 0, 1) := by decide +kernel
theorem dX9_minds_55 : decode cX9_minds 55 = .ok (.invokevirtual 275, 3) := by decide +kernel
theorem dX9_minds_58 : decode cX9_minds 58 = .ok (.ireturn, 1) := by decide +kernel
theorem dX9_minds_59 : decode cX9_minds 59 = .ok (.iload_n 2, 1) := by decide +kernel
theorem dX9_minds_60 : decode cX9_minds 60 = .ok (.i2l, 1) := by decide +kernel
theorem dX9_minds_61 : decode cX9_minds 61 = .ok (.lconst 0, 1) := by decide +kernel
theorem dX9_minds_62 : decode cX9_minds 62 = .ok (.aload_n 0, 1) := by decide +kernel
theorem dX9_minds_63 : decode cX9_minds 63 = .ok (.getfield 37, 3) := by decide +kernel
theorem dX9_minds_66 : decode cX9_minds 66 = .ok (.iload_n 1, 1) := by decide +kernel
theorem dX9_minds_67 : decode cX9_minds 67 = .ok (.iaload, 1) := by decide +kernel
theorem dX9_minds_68 : decode cX9_minds 68 = .ok (.i2l, 1) := by decide +kernel
theorem dX9_minds_69 : decode cX9_minds 69 = .ok (.invokestatic 60, 3) := by decide +kernel
theorem dX9_minds_72 : decode cX9_minds 72 = .ok (.ifCond .eq 20, 3) := by decide +kernel
theorem dX9_minds_75 : decode cX9_minds 75 = .ok (.iload_n 2, 1) := by decide +kernel
theorem dX9_minds_76 : decode cX9_minds 76 = .ok (.i2l, 1) := by decide +kernel
theorem dX9_minds_77 : decode cX9_minds 77 = .ok (.iload 4, 2) := by decide +kernel
theorem dX9_minds_79 : decode cX9_minds 79 = .ok (.i2l, 1) := by decide +kernel
theorem dX9_minds_80 : decode cX9_minds 80 = .ok (.ladd, 1) := by decide +kernel
theorem dX9_minds_81 : decode cX9_minds 81 = .ok (.aload_n 0, 1) := by decide +kernel
theorem dX9_minds_82 : decode cX9_minds 82 = .ok (.getfield 37, 3) := by decide +kernel
theorem dX9_minds_85 : decode cX9_minds 85 = .ok (.iload_n 1, 1) := by decide +kernel
theorem dX9_minds_86 : decode cX9_minds 86 = .ok (.iaload, 1) := by decide +kernel
theorem dX9_minds_87 : decode cX9_minds 87 = .ok (.i2l, 1) := by decide +kernel
theorem dX9_minds_88 : decode cX9_minds 88 = .ok (.lcmp, 1) := by decide +kernel
theorem dX9_minds_89 : decode cX9_minds 89 = .ok (.ifCond .le 6, 3) := by decide +kernel
theorem dX9_minds_92 : decode cX9_minds 92 = .ok (.bipush (-12), 2) := by decide +kernel
theorem dX9_minds_94 : decode cX9_minds 94 = .ok (.ireturn, 1) := by decide +kernel
theorem dX9_minds_95 : decode cX9_minds 95 = .ok (.iconst 0, 1) := by decide +kernel
theorem dX9_minds_96 : decode cX9_minds 96 = .ok (.istore 5, 2) := by decide +kernel
theorem dX9_minds_98 : decode cX9_minds 98 = .ok (.iload 5, 2) := by decide +kernel
theorem dX9_minds_100 : decode cX9_minds 100 = .ok (.iload 4, 2) := by decide +kernel
theorem dX9_minds_102 : decode cX9_minds 102 = .ok (.if_icmp .ge 43, 3) := by decide +kernel
theorem dX9_minds_105 : decode cX9_minds 105 = .ok (.aload_n 0, 1) := by decide +kernel
theorem dX9_minds_106 : decode cX9_minds 106 = .ok (.getfield 7, 3) := by decide +kernel
theorem dX9_minds_109 : decode cX9_minds 109 = .ok (.bipush 9, 2) := by decide +kernel
theorem dX9_minds_111 : decode cX9_minds 111 = .ok (.bipush 6, 2) := by decide +kernel
theorem dX9_minds_113 : decode cX9_minds 113 = .ok (.iload_n 3, 1) := by decide +kernel
theorem dX9_minds_114 : decode cX9_minds 114 = .ok (.iload 5, 2) := by decide +kernel
theorem dX9_minds_116 : decode cX9_minds 116 = .ok (.iadd, 1) := by decide +kernel
theorem dX9_minds_117 : decode cX9_minds 117 = .ok (.imul, 1) := by decide +kernel
theorem dX9_minds_118 : decode cX9_minds 118 = .ok (.iadd, 1) := by decide +kernel
theorem dX9_minds_119 : decode cX9_minds 119 = .ok (.iconst 1, 1) := by decide +kernel
theorem dX9_minds_120 : decode cX9_minds 120 = .ok (.iadd, 1) := by decide +kernel
theorem dX9_minds_121 : decode cX9_minds 121 = .ok (.aload_n 0, 1) := by decide +kernel
theorem dX9_minds_122 : decode cX9_minds 122 = .ok (.getfield 40, 3) := by decide +kernel
theorem dX9_minds_125 : decode cX9_minds 125 = .ok (.bipush 40, 2) := by decide +kernel
theorem dX9_minds_127 : decode cX9_minds 127 = .ok (.iload_n 1, 1) := by decide +kernel
theorem dX9_minds_128 : decode cX9_minds 128 = .ok (.imul, 1) := by decide +kernel
theorem dX9_minds_129 : decode cX9_minds 129 = .ok (.iload_n 2, 1) := by decide +kernel
theorem dX9_minds_130 : decode cX9_minds 130 = .ok (.iadd, 1) := by decide +kernel
theorem dX9_minds_131 : decode cX9_minds 131 = .ok (.iload 5, 2) := by decide +kernel
theorem dX9_minds_133 : decode cX9_minds 133 = .ok (.iadd, 1) := by decide +kernel
theorem dX9_minds_134 : decode cX9_minds 134 = .ok (.iaload, 1) := by decide +kernel
theorem dX9_minds_135 : decode cX9_minds 135 = .ok (.invokestatic 278, 3) := by decide +kernel
theorem dX9_minds_138 : decode cX9_minds 138 = .ok (.iastore, 1) := by decide +kernel
theorem dX9_minds_139 : decode cX9_minds 139 = .ok (.iinc 5 1, 3) := by decide +kernel
theorem dX9_minds_142 : decode cX9_minds 142 = .ok (.goto (-44), 3) := by decide +kernel
theorem dX9_minds_145 : decode cX9_minds 145 = .ok (.iload 4, 2) := by decide +kernel
theorem dX9_minds_147 : decode cX9_minds 147 = .ok (.ireturn, 1) := by decide +kernel
set_option maxRecDepth 20000 in
theorem ggX9_shelf_X9_isShelf : GoodIn wsX9_shelf wsX9_isShelf := goodIn_r _ [10, 11, 12, 13, 9, 14] (by decide +kernel) (by decide +kernel)
set_option maxRecDepth 20000 in
theorem gX9_shelf_X9_isShelf : GoodIn wsX9_shelf (va_wsS RX9 281 yX9_isShelf wsX9_isShelf) := goodIn_app (goodIn_of _ (by decide +kernel)) ggX9_shelf_X9_isShelf
set_option maxRecDepth 20000 in
theorem ggX9_shelf_X9_isIn : GoodIn wsX9_shelf wsX9_isIn := goodIn_r _ [14] (by decide +kernel) (by decide +kernel)
set_option maxRecDepth 20000 in
theorem gX9_shelf_X9_isIn : GoodIn wsX9_shelf (va_wsS RX9 60 yX9_isIn wsX9_isIn) := goodIn_app (goodIn_of _ (by decide +kernel)) ggX9_shelf_X9_isIn
set_option maxRecDepth 20000 in
theorem ggX9_shelf_X9_isOne : GoodIn wsX9_shelf wsX9_isOne := goodIn_r _ [18, 19, 23, 24, 25, 26, 27, 28, 29, 30, 31, 32, 33, 34, 35, 36, 37, 38, 39, 40, 41, 42, 43, 44, 45, 46, 47, 48, 49, 50, 51] (by decide +kernel) (by decide +kernel)
set_option maxRecDepth 20000 in
theorem gX9_shelf_X9_isOne : GoodIn wsX9_shelf (wsV RX9 130 RX9 yX9_isOne wsX9_isOne) := goodIn_app (goodIn_of _ (by decide +kernel)) ggX9_shelf_X9_isOne
set_option maxRecDepth 20000 in
theorem ggX9_shelf_X9_isSheet : GoodIn wsX9_shelf wsX9_isSheet := goodIn_r _ [22, 11, 12, 13, 9, 14] (by decide +kernel) (by decide +kernel)
set_option maxRecDepth 20000 in
theorem gX9_shelf_X9_isSheet : GoodIn wsX9_shelf (va_wsS RX9 251 yX9_isSheet wsX9_isSheet) := goodIn_app (goodIn_of _ (by decide +kernel)) ggX9_shelf_X9_isSheet
theorem dX9_shelf_0 : decode cX9_shelf 0 = .ok (.iload_n 1, 1) := by decide +kernel
theorem dX9_shelf_1 : decode cX9_shelf 1 = .ok (.invokestatic 281, 3) := by decide +kernel
theorem dX9_shelf_4 : decode cX9_shelf 4 = .ok (.ifCond .eq 39, 3) := by decide +kernel
theorem dX9_shelf_7 : decode cX9_shelf 7 = .ok (.iload_n 2, 1) := by decide +kernel
theorem dX9_shelf_8 : decode cX9_shelf 8 = .ok (.i2l, 1) := by decide +kernel
theorem dX9_shelf_9 : decode cX9_shelf 9 = .ok (.lconst 0, 1) := by decide +kernel
theorem dX9_shelf_10 : decode cX9_shelf 10 = .ok (.ldc2_w 178, 3) := by decide +kernel
theorem dX9_shelf_13 : decode cX9_shelf 13 = .ok (.invokestatic 60, 3) := by decide +kernel
theorem dX9_shelf_16 : decode cX9_shelf 16 = .ok (.ifCond .eq 27, 3) := by decide +kernel
theorem dX9_shelf_19 : decode cX9_shelf 19 = .ok (.iload_n 2, 1) := by decide +kernel
theorem dX9_shelf_20 : decode cX9_shelf 20 = .ok (.ifCond .ne 11, 3) := by decide +kernel
theorem dX9_shelf_23 : decode cX9_shelf 23 = .ok (.aload_n 0, 1) := by decide +kernel
theorem dX9_shelf_24 : decode cX9_shelf 24 = .ok (.iload_n 3, 1) := by decide +kernel
theorem dX9_shelf_25 : decode cX9_shelf 25 = .ok (.invokevirtual 130, 3) := by decide +kernel
theorem dX9_shelf_28 : decode cX9_shelf 28 = .ok (.ifCond .eq 15, 3) := by decide +kernel
theorem dX9_shelf_31 : decode cX9_shelf 31 = .ok (.iload_n 2, 1) := by decide +kernel
theorem dX9_shelf_32 : decode cX9_shelf 32 = .ok (.iconst 1, 1) := by decide +kernel
theorem dX9_shelf_33 : decode cX9_shelf 33 = .ok (.if_icmp .ne 12, 3) := by decide +kernel
theorem dX9_shelf_36 : decode cX9_shelf 36 = .ok (.iload_n 3, 1) := by decide +kernel
theorem dX9_shelf_37 : decode cX9_shelf 37 = .ok (.invokestatic 251, 3) := by decide +kernel
theorem dX9_shelf_40 : decode cX9_shelf 40 = .ok (.ifCond .ne 5, 3) := by decide +kernel
theorem dX9_shelf_43 : decode cX9_shelf 43 = .ok (.iconst (-1), 1) := by decide +kernel
theorem dX9_shelf_44 : decode cX9_shelf 44 = .ok (.ireturn, 1) := by decide +kernel
theorem dX9_shelf_45 : decode cX9_shelf 45 = .ok (.iload_n 2, 1) := by decide +kernel
theorem dX9_shelf_46 : decode cX9_shelf 46 = .ok (.iconst 1, 1) := by decide +kernel
theorem dX9_shelf_47 : decode cX9_shelf 47 = .ok (.if_icmp .ne 16, 3) := by decide +kernel
theorem dX9_shelf_50 : decode cX9_shelf 50 = .ok (.aload_n 0, 1) := by decide +kernel
theorem dX9_shelf_51 : decode cX9_shelf 51 = .ok (.getfield 34, 3) := by decide +kernel
theorem dX9_shelf_54 : decode cX9_shelf 54 = .ok (.iload_n 3, 1) := by decide +kernel
theorem dX9_shelf_55 : decode cX9_shelf 55 = .ok (.iaload, 1) := by decide +kernel
theorem dX9_shelf_56 : decode cX9_shelf 56 = .ok (.ifCond .lt 7, 3) := by decide +kernel
theorem dX9_shelf_59 : decode cX9_shelf 59 = .ok (.iconst 1, 1) := by decide +kernel
theorem dX9_shelf_60 : decode cX9_shelf 60 = .ok (.goto 4, 3) := by decide +kernel
theorem dX9_shelf_63 : decode cX9_shelf 63 = .ok (.iconst 0, 1) := by decide +kernel
theorem dX9_shelf_64 : decode cX9_shelf 64 = .ok (.istore 4, 2) := by decide +kernel
theorem dX9_shelf_66 : decode cX9_shelf 66 = .ok (.aload_n 0, 1) := by decide +kernel
theorem dX9_shelf_67 : decode cX9_shelf 67 = .ok (.getfield 43, 3) := by decide +kernel
theorem dX9_shelf_70 : decode cX9_shelf 70 = .ok (.iload_n 1, 1) := by decide +kernel
theorem dX9_shelf_71 : decode cX9_shelf 71 = .ok (.iload_n 2, 1) := by decide +kernel
theorem dX9_shelf_72 : decode cX9_shelf 72 = .ok (.ifCond .ne 7, 3) := by decide +kernel
theorem dX9_shelf_75 : decode cX9_shelf 75 = .ok (.iconst 1, 1) := by decide +kernel
theorem dX9_shelf_76 : decode cX9_shelf 76 = .ok (.goto 13, 3) := by decide +kernel
theorem dX9_shelf_79 : decode cX9_shelf 79 = .ok (.iload 4, 2) := by decide +kernel
theorem dX9_shelf_81 : decode cX9_shelf 81 = .ok (.ifCond .eq 7, 3) := by decide +kernel
theorem dX9_shelf_84 : decode cX9_shelf 84 = .ok (.iconst 2, 1) := by decide +kernel
theorem dX9_shelf_85 : decode cX9_shelf 85 = .ok (.goto 4, 3) := by decide +kernel
theorem dX9_shelf_88 : decode cX9_shelf 88 = .ok (.iconst 0, 1) := by decide +kernel
theorem dX9_shelf_89 : decode cX9_shelf 89 = .ok (.iastore, 1) := by decide +kernel
theorem dX9_shelf_90 : decode cX9_shelf 90 = .ok (.aload_n 0, 1) := by decide +kernel
theorem dX9_shelf_91 : decode cX9_shelf 91 = .ok (.getfield 46, 3) := by decide +kernel
theorem dX9_shelf_94 : decode cX9_shelf 94 = .ok (.iload_n 1, 1) := by decide +kernel
theorem dX9_shelf_95 : decode cX9_shelf 95 = .ok (.iload_n 2, 1) := by decide +kernel
theorem dX9_shelf_96 : decode cX9_shelf 96 = .ok (.ifCond .ne 7, 3) := by decide +kernel
theorem dX9_shelf_99 : decode cX9_shelf 99 = .ok (.iload_n 3, 1) := by decide +kernel
theorem dX9_shelf_100 : decode cX9_shelf 100 = .ok (.goto 18, 3) := by decide +kernel
theorem dX9_shelf_103 : decode cX9_shelf 103 = .ok (.iload 4, 2) := by decide +kernel
theorem dX9_shelf_105 : decode cX9_shelf 105 = .ok (.ifCond .eq 12, 3) := by decide +kernel
theorem dX9_shelf_108 : decode cX9_shelf 108 = .ok (.aload_n 0, 1) := by decide +kernel
theorem dX9_shelf_109 : decode cX9_shelf 109 = .ok (.getfield 34, 3) := by decide +kernel
theorem dX9_shelf_112 : decode cX9_shelf 112 = .ok (.iload_n 3, 1) := by decide +kernel
theorem dX9_shelf_113 : decode cX9_shelf 113 = .ok (.iaload, 1) := by decide +kernel
theorem dX9_shelf_114 : decode cX9_shelf 114 = .ok (.goto 4, 3) := by decide +kernel
theorem dX9_shelf_117 : decode cX9_shelf 117 = .ok (.iconst 0, 1) := by decide +kernel
theorem dX9_shelf_118 : decode cX9_shelf 118 = .ok (.iastore, 1) := by decide +kernel
theorem dX9_shelf_119 : decode cX9_shelf 119 = .ok (.aload_n 0, 1) := by decide +kernel
theorem dX9_shelf_120 : decode cX9_shelf 120 = .ok (.getfield 49, 3) := by decide +kernel
theorem dX9_shelf_123 : decode cX9_shelf 123 = .ok (.iload_n 1, 1) := by decide +kernel
theorem dX9_shelf_124 : decode cX9_shelf 124 = .ok (.iload 4, 2) := by decide +kernel
theorem dX9_shelf_126 : decode cX9_shelf 126 = .ok (.ifCond .eq 12, 3) := by decide +kernel
theorem dX9_shelf_129 : decode cX9_shelf 129 = .ok (.aload_n 0, 1) := by decide +kernel
theorem dX9_shelf_130 : decode cX9_shelf 130 = .ok (.getfield 37, 3) := by decide +kernel
theorem dX9_shelf_133 : decode cX9_shelf 133 = .ok (.iload_n 3, 1) := by decide +kernel
theorem dX9_shelf_134 : decode cX9_shelf 134 = .ok (.iaload, 1) := by decide +kernel
theorem dX9_shelf_135 : decode cX9_shelf 135 = .ok (.goto 4, 3) := by decide +kernel
theorem dX9_shelf_138 : decode cX9_shelf 138 = .ok (.iconst 0, 1) := by decide +kernel
theorem dX9_shelf_139 : decode cX9_shelf 139 = .ok (.iastore, 1) := by decide +kernel
theorem dX9_shelf_140 : decode cX9_shelf 140 = .ok (.iconst 1, 1) := by decide +kernel
theorem dX9_shelf_141 : decode cX9_shelf 141 = .ok (.ireturn, 1) := by decide +kernel
set_option maxRecDepth 20000 in
theorem ggX9_heldOn_X9_isOne : GoodIn wsX9_heldOn wsX9_isOne := goodIn_r _ [7, 8, 9, 10, 11, 12, 13, 14, 15, 16, 17, 18, 19, 20, 21, 22, 23, 24, 25, 26, 27, 28, 29, 30, 31, 32, 33, 34, 35, 36, 37] (by decide +kernel) (by decide +kernel)
set_option maxRecDepth 20000 in
theorem gX9_heldOn_X9_isOne : GoodIn wsX9_heldOn (wsV RX9 130 RX9 yX9_isOne wsX9_isOne) := goodIn_app (goodIn_of _ (by decide +kernel)) ggX9_heldOn_X9_isOne
theorem dX9_heldOn_0 : decode cX9_heldOn 0 = .ok (.aload_n 0, 1) := by decide +kernel
theorem dX9_heldOn_1 : decode cX9_heldOn 1 = .ok (.getfield 43, 3) := by decide +kernel
theorem dX9_heldOn_4 : decode cX9_heldOn 4 = .ok (.iload_n 1, 1) := by decide +kernel
theorem dX9_heldOn_5 : decode cX9_heldOn 5 = .ok (.iaload, 1) := by decide +kernel
theorem dX9_heldOn_6 : decode cX9_heldOn 6 = .ok (.iconst 1, 1) := by decide +kernel
theorem dX9_heldOn_7 : decode cX9_heldOn 7 = .ok (.if_icmp .ne 20, 3) := by decide +kernel
theorem dX9_heldOn_10 : decode cX9_heldOn 10 = .ok (.aload_n 0, 1) := by decide +kernel
theorem dX9_heldOn_11 : decode cX9_heldOn 11 = .ok (.aload_n 0, 1) := by decide +kernel
theorem dX9_heldOn_12 : decode cX9_heldOn 12 = .ok (.getfield 46, 3) := by decide +kernel
theorem dX9_heldOn_15 : decode cX9_heldOn 15 = .ok (.iload_n 1, 1) := by decide +kernel
theorem dX9_heldOn_16 : decode cX9_heldOn 16 = .ok (.iaload, 1) := by decide +kernel
theorem dX9_heldOn_17 : decode cX9_heldOn 17 = .ok (.invokevirtual 130, 3) := by decide +kernel
theorem dX9_heldOn_20 : decode cX9_heldOn 20 = .ok (.ifCond .ne 7, 3) := by decide +kernel
theorem dX9_heldOn_23 : decode cX9_heldOn 23 = .ok (.iconst 0, 1) := by decide +kernel
theorem dX9_heldOn_24 : decode cX9_heldOn 24 = .ok (.goto 9, 3) := by decide +kernel
theorem dX9_heldOn_27 : decode cX9_heldOn 27 = .ok (.aload_n 0, 1) := by decide +kernel
theorem dX9_heldOn_28 : decode cX9_heldOn 28 = .ok (.getfield 43, 3) := by decide +kernel
theorem dX9_heldOn_31 : decode cX9_heldOn 31 = .ok (.iload_n 1, 1) := by decide +kernel
theorem dX9_heldOn_32 : decode cX9_heldOn 32 = .ok (.iaload, 1) := by decide +kernel
theorem dX9_heldOn_33 : decode cX9_heldOn 33 = .ok (.ireturn, 1) := by decide +kernel
set_option maxRecDepth 20000 in
theorem ggX9_taken_X9_isShelf : GoodIn wsX9_taken wsX9_isShelf := goodIn_r _ [9, 10, 11, 12, 8, 13] (by decide +kernel) (by decide +kernel)
set_option maxRecDepth 20000 in
theorem gX9_taken_X9_isShelf : GoodIn wsX9_taken (va_wsS RX9 281 yX9_isShelf wsX9_isShelf) := goodIn_app (goodIn_of _ (by decide +kernel)) ggX9_taken_X9_isShelf
set_option maxRecDepth 20000 in
theorem ggX9_taken_X9_isIn : GoodIn wsX9_taken wsX9_isIn := goodIn_r _ [13] (by decide +kernel) (by decide +kernel)
set_option maxRecDepth 20000 in
theorem gX9_taken_X9_isIn : GoodIn wsX9_taken (va_wsS RX9 60 yX9_isIn wsX9_isIn) := goodIn_app (goodIn_of _ (by decide +kernel)) ggX9_taken_X9_isIn
set_option maxRecDepth 20000 in
theorem ggX9_taken_X9_heldOn : GoodIn wsX9_taken wsX9_heldOn := goodIn_r _ [17, 18, 4, 19, 20, 21, 8, 22, 23, 31, 32, 33, 34, 35, 36, 37, 38, 39, 40, 41, 42, 43, 44, 45, 46, 47, 48, 49, 50, 51, 52, 53, 54, 55, 56, 57, 58, 59] (by decide +kernel) (by decide +kernel)
set_option maxRecDepth 20000 in
theorem gX9_taken_X9_heldOn : GoodIn wsX9_taken (wsV RX9 288 RX9 yX9_heldOn wsX9_heldOn) := goodIn_app (goodIn_of _ (by decide +kernel)) ggX9_taken_X9_heldOn
set_option maxRecDepth 20000 in
theorem ggX9_taken_X9_its : GoodIn wsX9_taken wsX9_its := goodIn_r _ [27, 23, 31, 32, 33, 34, 35, 36, 37, 38, 39, 40, 41, 42, 43, 44, 45, 46, 47, 48, 49, 50, 51, 52, 53, 54, 55, 56, 57, 58, 59] (by decide +kernel) (by decide +kernel)
set_option maxRecDepth 20000 in
theorem gX9_taken_X9_its : GoodIn wsX9_taken (wsV RX9 172 RX9 yX9_its wsX9_its) := goodIn_app (goodIn_of _ (by decide +kernel)) ggX9_taken_X9_its
set_option maxRecDepth 20000 in
theorem ggX9_taken_X9_isUnder : GoodIn wsX9_taken wsX9_isUnder := goodIn_r _ [30] (by decide +kernel) (by decide +kernel)
set_option maxRecDepth 20000 in
theorem gX9_taken_X9_isUnder : GoodIn wsX9_taken (va_wsS RX9 291 yX9_isUnder wsX9_isUnder) := goodIn_app (goodIn_of _ (by decide +kernel)) ggX9_taken_X9_isUnder
theorem dX9_taken_0 : decode cX9_taken 0 = .ok (.iload_n 1, 1) := by decide +kernel
theorem dX9_taken_1 : decode cX9_taken 1 = .ok (.invokestatic 281, 3) := by decide +kernel
theorem dX9_taken_4 : decode cX9_taken 4 = .ok (.ifCond .eq 29, 3) := by decide +kernel
theorem dX9_taken_7 : decode cX9_taken 7 = .ok (.iload_n 2, 1) := by decide +kernel
theorem dX9_taken_8 : decode cX9_taken 8 = .ok (.i2l, 1) := by decide +kernel
theorem dX9_taken_9 : decode cX9_taken 9 = .ok (.lconst 0, 1) := by decide +kernel
theorem dX9_taken_10 : decode cX9_taken 10 = .ok (.ldc2_w 284, 3) := by decide +kernel
theorem dX9_taken_13 : decode cX9_taken 13 = .ok (.invokestatic 60, 3) := by decide +kernel
theorem dX9_taken_16 : decode cX9_taken 16 = .ok (.ifCond .eq 17, 3) := by decide +kernel
theorem dX9_taken_19 : decode cX9_taken 19 = .ok (.iload_n 2, 1) := by decide +kernel
theorem dX9_taken_20 : decode cX9_taken 20 = .ok (.i2l, 1) := by decide +kernel
theorem dX9_taken_21 : decode cX9_taken 21 = .ok (.ldc2_w 286, 3) := by decide +kernel
theorem dX9_taken_24 : decode cX9_taken 24 = .ok (.ldc2_w 164, 3) := by decide +kernel
theorem dX9_taken_27 : decode cX9_taken 27 = .ok (.invokestatic 60, 3) := by decide +kernel
theorem dX9_taken_30 : decode cX9_taken 30 = .ok (.ifCond .eq 5, 3) := by decide +kernel
theorem dX9_taken_33 : decode cX9_taken 33 = .ok (.iconst (-1), 1) := by decide +kernel
theorem dX9_taken_34 : decode cX9_taken 34 = .ok (.ireturn, 1) := by decide +kernel
theorem dX9_taken_35 : decode cX9_taken 35 = .ok (.aload_n 0, 1) := by decide +kernel
theorem dX9_taken_36 : decode cX9_taken 36 = .ok (.iload_n 1, 1) := by decide +kernel
theorem dX9_taken_37 : decode cX9_taken 37 = .ok (.invokevirtual 288, 3) := by decide +kernel
theorem dX9_taken_40 : decode cX9_taken 40 = .ok (.istore_n 3, 1) := by decide +kernel
theorem dX9_taken_41 : decode cX9_taken 41 = .ok (.iload_n 3, 1) := by decide +kernel
theorem dX9_taken_42 : decode cX9_taken 42 = .ok (.ifCond .ne 6, 3) := by decide +kernel
theorem dX9_taken_45 : decode cX9_taken 45 = .ok (.bipush (-11), 2) := by decide +kernel
theorem dX9_taken_47 : decode cX9_taken 47 = .ok (.ireturn, 1) := by decide +kernel
theorem dX9_taken_48 : decode cX9_taken 48 = .ok (.iload_n 2, 1) := by decide +kernel
theorem dX9_taken_49 : decode cX9_taken 49 = .ok (.bipush 10, 2) := by decide +kernel
theorem dX9_taken_51 : decode cX9_taken 51 = .ok (.if_icmp .ge 38, 3) := by decide +kernel
theorem dX9_taken_54 : decode cX9_taken 54 = .ok (.iload_n 3, 1) := by decide +kernel
theorem dX9_taken_55 : decode cX9_taken 55 = .ok (.iconst 1, 1) := by decide +kernel
theorem dX9_taken_56 : decode cX9_taken 56 = .ok (.if_icmp .ne 30, 3) := by decide +kernel
theorem dX9_taken_59 : decode cX9_taken 59 = .ok (.aload_n 0, 1) := by decide +kernel
theorem dX9_taken_60 : decode cX9_taken 60 = .ok (.aload_n 0, 1) := by decide +kernel
theorem dX9_taken_61 : decode cX9_taken 61 = .ok (.getfield 46, 3) := by decide +kernel
theorem dX9_taken_64 : decode cX9_taken 64 = .ok (.iload_n 1, 1) := by decide +kernel
theorem dX9_taken_65 : decode cX9_taken 65 = .ok (.iaload, 1) := by decide +kernel
theorem dX9_taken_66 : decode cX9_taken 66 = .ok (.iconst 0, 1) := by decide +kernel
theorem dX9_taken_67 : decode cX9_taken 67 = .ok (.invokevirtual 172, 3) := by decide +kernel
theorem dX9_taken_70 : decode cX9_taken 70 = .ok (.iload_n 2, 1) := by decide +kernel
theorem dX9_taken_71 : decode cX9_taken 71 = .ok (.invokestatic 291, 3) := by decide +kernel
theorem dX9_taken_74 : decode cX9_taken 74 = .ok (.ifCond .eq 12, 3) := by decide +kernel
theorem dX9_taken_77 : decode cX9_taken 77 = .ok (.aload_n 0, 1) := by decide +kernel
theorem dX9_taken_78 : decode cX9_taken 78 = .ok (.getfield 46, 3) := by decide +kernel
theorem dX9_taken_81 : decode cX9_taken 81 = .ok (.iload_n 1, 1) := by decide +kernel
theorem dX9_taken_82 : decode cX9_taken 82 = .ok (.iaload, 1) := by decide +kernel
theorem dX9_taken_83 : decode cX9_taken 83 = .ok (.goto 5, 3) := by decide +kernel
theorem dX9_taken_86 : decode cX9_taken 86 = .ok (.bipush (-13), 2) := by decide +kernel
theorem dX9_taken_88 : decode cX9_taken 88 = .ok (.ireturn, 1) := by decide +kernel
theorem dX9_taken_89 : decode cX9_taken 89 = .ok (.iload_n 3, 1) := by decide +kernel
theorem dX9_taken_90 : decode cX9_taken 90 = .ok (.iconst 2, 1) := by decide +kernel
theorem dX9_taken_91 : decode cX9_taken 91 = .ok (.if_icmp .ne 25, 3) := by decide +kernel
theorem dX9_taken_94 : decode cX9_taken 94 = .ok (.aload_n 0, 1) := by decide +kernel
theorem dX9_taken_95 : decode cX9_taken 95 = .ok (.getfield 46, 3) := by decide +kernel
theorem dX9_taken_98 : decode cX9_taken 98 = .ok (.iload_n 1, 1) := by decide +kernel
theorem dX9_taken_99 : decode cX9_taken 99 = .ok (.iaload, 1) := by decide +kernel
theorem dX9_taken_100 : decode cX9_taken 100 = .ok (.iload_n 2, 1) := by decide +kernel
theorem dX9_taken_101 : decode cX9_taken 101 = .ok (.bipush 10, 2) := by decide +kernel
theorem dX9_taken_103 : decode cX9_taken 103 = .ok (.isub, 1) := by decide +kernel
theorem dX9_taken_104 : decode cX9_taken 104 = .ok (.if_icmp .ne 12, 3) := by decide +kernel
theorem dX9_taken_107 : decode cX9_taken 107 = .ok (.aload_n 0, 1) := by decide +kernel
theorem dX9_taken_108 : decode cX9_taken 108 = .ok (.getfield 49, 3) := by decide +kernel
theorem dX9_taken_111 : decode cX9_taken 111 = .ok (.iload_n 1, 1) := by decide +kernel
theorem dX9_taken_112 : decode cX9_taken 112 = .ok (.iaload, 1) := by decide +kernel
theorem dX9_taken_113 : decode cX9_taken 113 = .ok (.goto 5, 3) := by decide +kernel
theorem dX9_taken_116 : decode cX9_taken 116 = .ok (.bipush (-13), 2) := by decide +kernel
theorem dX9_taken_118 : decode cX9_taken 118 = .ok (.ireturn, 1) := by decide +kernel
theorem dX9_runs_0 : decode cX9_runs 0 = .ok (.aload_n 0, 1) := by decide +kernel
theorem dX9_runs_1 : decode cX9_runs 1 = .ok (.getfield 294, 3) := by decide +kernel
theorem dX9_runs_4 : decode cX9_runs 4 = .ok (.bipush 30, 2) := by decide +kernel
theorem dX9_runs_6 : decode cX9_runs 6 = .ok (.if_icmp .ge 23, 3) := by decide +kernel
theorem dX9_runs_9 : decode cX9_runs 9 = .ok (.aload_n 0, 1) := by decide +kernel
theorem dX9_runs_10 : decode cX9_runs 10 = .ok (.getfield 52, 3) := by decide +kernel
theorem dX9_runs_13 : decode cX9_runs 13 = .ok (.aload_n 0, 1) := by decide +kernel
theorem dX9_runs_14 : decode cX9_runs 14 = .ok (.getfield 294, 3) := by decide +kernel
theorem dX9_runs_17 : decode cX9_runs 17 = .ok (.iload_n 1, 1) := by decide +kernel
theorem dX9_runs_18 : decode cX9_runs 18 = .ok (.iastore, 1) := by decide +kernel
theorem dX9_runs_19 : decode cX9_runs 19 = .ok (.aload_n 0, 1) := by decide +kernel
theorem dX9_runs_20 : decode cX9_runs 20 = .ok (.dup, 1) := by decide +kernel
theorem dX9_runs_21 : decode cX9_runs 21 = .ok (.getfield 294, 3) := by decide +kernel
theorem dX9_runs_24 : decode cX9_runs 24 = .ok (.iconst 1, 1) := by decide +kernel
theorem dX9_runs_25 : decode cX9_runs 25 = .ok (.iadd, 1) := by decide +kernel
theorem dX9_runs_26 : decode cX9_runs 26 = .ok (.putfield 294, 3) := by decide +kernel
theorem dX9_runs_29 : decode cX9_runs 29 = .ok (.return_, 1) := by decide +kernel
set_option maxRecDepth 20000 in
theorem ggX9_muttersPlain_X9_runs : GoodIn wsX9_muttersPlain wsX9_runs := goodIn_r _ [6, 7, 8, 9, 10, 11, 12, 13, 14, 15, 16, 17, 18, 19, 20, 21, 22, 23, 24, 25, 26, 27, 28, 29, 30, 31, 32, 33, 34, 35, 36, 37] (by decide +kernel) (by decide +kernel)
set_option maxRecDepth 20000 in
theorem gX9_muttersPlain_X9_runs : GoodIn wsX9_muttersPlain (wsV RX9 297 RX9 yX9_runs wsX9_runs) := goodIn_app (goodIn_of _ (by decide +kernel)) ggX9_muttersPlain_X9_runs
theorem dX9_muttersPlain_0 : decode cX9_muttersPlain 0 = .ok (.aload_n 0, 1) := by decide +kernel
theorem dX9_muttersPlain_1 : decode cX9_muttersPlain 1 = .ok (.bipush 10, 2) := by decide +kernel
theorem dX9_muttersPlain_3 : decode cX9_muttersPlain 3 = .ok (.invokevirtual 297, 3) := by decide +kernel
theorem dX9_muttersPlain_6 : decode cX9_muttersPlain 6 = .ok (.iload_n 1, 1) := by decide +kernel
theorem dX9_muttersPlain_7 : decode cX9_muttersPlain 7 = .ok (.aload_n 0, 1) := by decide +kernel
theorem dX9_muttersPlain_8 : decode cX9_muttersPlain 8 = .ok (.getfield 300, 3) := by decide +kernel
theorem dX9_muttersPlain_11 : decode cX9_muttersPlain 11 = .ok (.bipush 6, 2) := by decide +kernel
theorem dX9_muttersPlain_13 : decode cX9_muttersPlain 13 = .ok (.imul, 1) := by decide +kernel
theorem dX9_muttersPlain_14 : decode cX9_muttersPlain 14 = .ok (.iadd, 1) := by decide +kernel
theorem dX9_muttersPlain_15 : decode cX9_muttersPlain 15 = .ok (.ireturn, 1) := by decide +kernel
set_option maxRecDepth 20000 in
theorem ggX9_muttersOfMonk_X9_runs : GoodIn wsX9_muttersOfMonk wsX9_runs := goodIn_r _ [5, 6, 7, 13, 14, 15, 16, 17, 18, 19, 20, 21, 22, 23, 24, 25, 26, 27, 28, 29, 30, 31, 32, 33, 34, 35, 36, 37, 38, 39, 40, 41] (by decide +kernel) (by decide +kernel)
set_option maxRecDepth 20000 in
theorem gX9_muttersOfMonk_X9_runs : GoodIn wsX9_muttersOfMonk (wsV RX9 297 RX9 yX9_runs wsX9_runs) := goodIn_app (goodIn_of _ (by decide +kernel)) ggX9_muttersOfMonk_X9_runs
set_option maxRecDepth 20000 in
theorem ggX9_muttersOfMonk_X9_muttersPlain : GoodIn wsX9_muttersOfMonk wsX9_muttersPlain := goodIn_r _ [11, 12, 1, 2, 3, 4, 5, 6, 7, 13, 14, 15, 16, 17, 18, 19, 20, 21, 22, 23, 24, 25, 26, 27, 28, 29, 30, 31, 32, 33, 34, 35, 36, 37, 38, 39, 40, 41] (by decide +kernel) (by decide +kernel)
set_option maxRecDepth 20000 in
theorem gX9_muttersOfMonk_X9_muttersPlain : GoodIn wsX9_muttersOfMonk (wsV RX9 303 RX9 yX9_muttersPlain wsX9_muttersPlain) := goodIn_app (goodIn_of _ (by decide +kernel)) ggX9_muttersOfMonk_X9_muttersPlain
theorem dX9_muttersOfMonk_0 : decode cX9_muttersOfMonk 0 = .ok (.aload_n 0, 1) := by decide +kernel
theorem dX9_muttersOfMonk_1 : decode cX9_muttersOfMonk 1 = .ok (.bipush 30, 2) := by decide +kernel
theorem dX9_muttersOfMonk_3 : decode cX9_muttersOfMonk 3 = .ok (.invokevirtual 297, 3) := by decide +kernel
theorem dX9_muttersOfMonk_6 : decode cX9_muttersOfMonk 6 = .ok (.iconst 0, 1) := by decide +kernel
theorem dX9_muttersOfMonk_7 : decode cX9_muttersOfMonk 7 = .ok (.aload_n 0, 1) := by decide +kernel
theorem dX9_muttersOfMonk_8 : decode cX9_muttersOfMonk 8 = .ok (.iload_n 1, 1) := by decide +kernel
theorem dX9_muttersOfMonk_9 : decode cX9_muttersOfMonk 9 = .ok (.invokevirtual 303, 3) := by decide +kernel
theorem dX9_muttersOfMonk_12 : decode cX9_muttersOfMonk 12 = .ok (.isub, 1) := by decide +kernel
theorem dX9_muttersOfMonk_13 : decode cX9_muttersOfMonk 13 = .ok (.ireturn, 1) := by decide +kernel
set_option maxRecDepth 20000 in
theorem ggX9_mutters_X9_muttersOfMonk : GoodIn wsX9_mutters wsX9_muttersOfMonk := goodIn_r _ [6, 7, 8, 9, 5, 10, 11, 12, 13, 14, 15, 16, 17, 18, 19, 20, 21, 22, 23, 24, 25, 26, 27, 28, 29, 30, 31, 32, 33, 34, 35, 36, 37, 38, 39, 40, 41, 42, 43, 44, 45, 46] (by decide +kernel) (by decide +kernel)
set_option maxRecDepth 20000 in
theorem gX9_mutters_X9_muttersOfMonk : GoodIn wsX9_mutters (wsV RX9 309 RX9 yX9_muttersOfMonk wsX9_muttersOfMonk) := goodIn_app (goodIn_of _ (by decide +kernel)) ggX9_mutters_X9_muttersOfMonk
set_option maxRecDepth 20000 in
theorem ggX9_mutters_X9_runs : GoodIn wsX9_mutters wsX9_runs := goodIn_r _ [10, 11, 12, 18, 19, 20, 21, 22, 23, 24, 25, 26, 27, 28, 29, 30, 31, 32, 33, 34, 35, 36, 37, 38, 39, 40, 41, 42, 43, 44, 45, 46] (by decide +kernel) (by decide +kernel)
set_option maxRecDepth 20000 in
theorem gX9_mutters_X9_runs : GoodIn wsX9_mutters (wsV RX9 297 RX9 yX9_runs wsX9_runs) := goodIn_app (goodIn_of _ (by decide +kernel)) ggX9_mutters_X9_runs
set_option maxRecDepth 20000 in
theorem ggX9_mutters_X9_muttersPlain : GoodIn wsX9_mutters wsX9_muttersPlain := goodIn_r _ [16, 17, 7, 8, 9, 5, 10, 11, 12, 18, 19, 20, 21, 22, 23, 24, 25, 26, 27, 28, 29, 30, 31, 32, 33, 34, 35, 36, 37, 38, 39, 40, 41, 42, 43, 44, 45, 46] (by decide +kernel) (by decide +kernel)
set_option maxRecDepth 20000 in
theorem gX9_mutters_X9_muttersPlain : GoodIn wsX9_mutters (wsV RX9 303 RX9 yX9_muttersPlain wsX9_muttersPlain) := goodIn_app (goodIn_of _ (by decide +kernel)) ggX9_mutters_X9_muttersPlain
theorem dX9_mutters_0 : decode cX9_mutters 0 = .ok (.aload_n 0, 1) := by decide +kernel
theorem dX9_mutters_1 : decode cX9_mutters 1 = .ok (.getfield 306, 3) := by decide +kernel
theorem dX9_mutters_4 : decode cX9_mutters 4 = .ok (.tableswitch 63 2 4 #[28, 48, 34], 28) := by decide +kernel
theorem dX9_mutters_32 : decode cX9_mutters 32 = .ok (.aload_n 0, 1) := by decide +kernel
theorem dX9_mutters_33 : decode cX9_mutters 33 = .ok (.iload_n 1, 1) := by decide +kernel
theorem dX9_mutters_34 : decode cX9_mutters 34 = .ok (.invokevirtual 309, 3) := by decide +kernel
theorem dX9_mutters_37 : decode cX9_mutters 37 = .ok (.ireturn, 1) := by decide +kernel
theorem dX9_mutters_38 : decode cX9_mutters 38 = .ok (.aload_n 0, 1) := by decide +kernel
theorem dX9_mutters_39 : decode cX9_mutters 39 = .ok (.bipush 40, 2) := by decide +kernel
theorem dX9_mutters_41 : decode cX9_mutters 41 = .ok (.invokevirtual 297, 3) := by decide +kernel
theorem dX9_mutters_44 : decode cX9_mutters 44 = .ok (.aload_n 0, 1) := by decide +kernel
theorem dX9_mutters_45 : decode cX9_mutters 45 = .ok (.iload_n 1, 1) := by decide +kernel
theorem dX9_mutters_46 : decode cX9_mutters 46 = .ok (.invokevirtual 309, 3) := by decide +kernel
theorem dX9_mutters_49 : decode cX9_mutters 49 = .ok (.iconst 5, 1) := by decide +kernel
theorem dX9_mutters_50 : decode cX9_mutters 50 = .ok (.isub, 1) := by decide +kernel
theorem dX9_mutters_51 : decode cX9_mutters 51 = .ok (.ireturn, 1) := by decide +kernel
theorem dX9_mutters_52 : decode cX9_mutters 52 = .ok (.aload_n 0, 1) := by decide +kernel
theorem dX9_mutters_53 : decode cX9_mutters 53 = .ok (.bipush 51, 2) := by decide +kernel
theorem dX9_mutters_55 : decode cX9_mutters 55 = .ok (.invokevirtual 297, 3) := by decide +kernel
theorem dX9_mutters_58 : decode cX9_mutters 58 = .ok (.aload_n 0, 1) := by decide +kernel
theorem dX9_mutters_59 : decode cX9_mutters 59 = .ok (.iload_n 1, 1) := by decide +kernel
theorem dX9_mutters_60 : decode cX9_mutters 60 = .ok (.invokevirtual 303, 3) := by decide +kernel
theorem dX9_mutters_63 : decode cX9_mutters 63 = .ok (.bipush 7, 2) := by decide +kernel
theorem dX9_mutters_65 : decode cX9_mutters 65 = .ok (.iadd, 1) := by decide +kernel
theorem dX9_mutters_66 : decode cX9_mutters 66 = .ok (.ireturn, 1) := by decide +kernel
theorem dX9_mutters_67 : decode cX9_mutters 67 = .ok (.aload_n 0, 1) := by decide +kernel
theorem dX9_mutters_68 : decode cX9_mutters 68 = .ok (.iload_n 1, 1) := by decide +kernel
theorem dX9_mutters_69 : decode cX9_mutters 69 = .ok (.invokevirtual 303, 3) := by decide +kernel
theorem dX9_mutters_72 : decode cX9_mutters 72 = .ok (.ireturn, 1) := by decide +kernel
set_option maxRecDepth 20000 in
theorem ggX9_saysPlain_X9_runs : GoodIn wsX9_saysPlain wsX9_runs := goodIn_r _ [6, 7, 8, 23, 24, 25, 26, 27, 28, 29, 30, 31, 32, 33, 34, 35, 36, 37, 38, 39, 40, 41, 42, 43, 44, 45, 46, 47, 48, 49, 50, 51] (by decide +kernel) (by decide +kernel)
set_option maxRecDepth 20000 in
theorem gX9_saysPlain_X9_runs : GoodIn wsX9_saysPlain (wsV RX9 297 RX9 yX9_runs wsX9_runs) := goodIn_app (goodIn_of _ (by decide +kernel)) ggX9_saysPlain_X9_runs
set_option maxRecDepth 20000 in
theorem ggX9_saysPlain_X9_mutters : GoodIn wsX9_saysPlain wsX9_mutters := goodIn_r _ [12, 13, 14, 15, 16, 5, 17, 2, 3, 4, 6, 7, 8, 18, 19, 20, 21, 22, 23, 24, 25, 26, 27, 28, 29, 30, 31, 32, 33, 34, 35, 36, 37, 38, 39, 40, 41, 42, 43, 44, 45, 46, 47, 48, 49, 50, 51] (by decide +kernel) (by decide +kernel)
set_option maxRecDepth 20000 in
theorem gX9_saysPlain_X9_mutters : GoodIn wsX9_saysPlain (wsV RX9 312 RX9 yX9_mutters wsX9_mutters) := goodIn_app (goodIn_of _ (by decide +kernel)) ggX9_saysPlain_X9_mutters
theorem dX9_saysPlain_0 : decode cX9_saysPlain 0 = .ok (.aload_n 0, 1) := by decide +kernel
theorem dX9_saysPlain_1 : decode cX9_saysPlain 1 = .ok (.bipush 11, 2) := by decide +kernel
theorem dX9_saysPlain_3 : decode cX9_saysPlain 3 = .ok (.invokevirtual 297, 3) := by decide +kernel
theorem dX9_saysPlain_6 : decode cX9_saysPlain 6 = .ok (.aload_n 0, 1) := by decide +kernel
theorem dX9_saysPlain_7 : decode cX9_saysPlain 7 = .ok (.iload_n 1, 1) := by decide +kernel
theorem dX9_saysPlain_8 : decode cX9_saysPlain 8 = .ok (.invokevirtual 312, 3) := by decide +kernel
theorem dX9_saysPlain_11 : decode cX9_saysPlain 11 = .ok (.iconst 2, 1) := by decide +kernel
theorem dX9_saysPlain_12 : decode cX9_saysPlain 12 = .ok (.imul, 1) := by decide +kernel
theorem dX9_saysPlain_13 : decode cX9_saysPlain 13 = .ok (.aload_n 0, 1) := by decide +kernel
theorem dX9_saysPlain_14 : decode cX9_saysPlain 14 = .ok (.getfield 315, 3) := by decide +kernel
theorem dX9_saysPlain_17 : decode cX9_saysPlain 17 = .ok (.iadd, 1) := by decide +kernel
theorem dX9_saysPlain_18 : decode cX9_saysPlain 18 = .ok (.ireturn, 1) := by decide +kernel
set_option maxRecDepth 20000 in
theorem ggX9_says_X9_runs : GoodIn wsX9_says wsX9_runs := goodIn_r _ [7, 8, 9, 27, 28, 29, 30, 31, 32, 33, 34, 35, 36, 37, 38, 39, 40, 41, 42, 43, 44, 45, 46, 47, 48, 49, 50, 51, 52, 53, 54, 55] (by decide +kernel) (by decide +kernel)
set_option maxRecDepth 20000 in
theorem gX9_says_X9_runs : GoodIn wsX9_says (wsV RX9 297 RX9 yX9_runs wsX9_runs) := goodIn_app (goodIn_of _ (by decide +kernel)) ggX9_says_X9_runs
set_option maxRecDepth 20000 in
theorem ggX9_says_X9_saysPlain : GoodIn wsX9_says wsX9_saysPlain := goodIn_r _ [13, 2, 3, 4, 5, 6, 7, 8, 9, 14, 15, 16, 17, 1, 18, 19, 20, 21, 22, 23, 24, 25, 26, 27, 28, 29, 30, 31, 32, 33, 34, 35, 36, 37, 38, 39, 40, 41, 42, 43, 44, 45, 46, 47, 48, 49, 50, 51, 52, 53, 54, 55] (by decide +kernel) (by decide +kernel)
set_option maxRecDepth 20000 in
theorem gX9_says_X9_saysPlain : GoodIn wsX9_says (wsV RX9 318 RX9 yX9_saysPlain wsX9_saysPlain) := goodIn_app (goodIn_of _ (by decide +kernel)) ggX9_says_X9_saysPlain
set_option maxRecDepth 20000 in
theorem ggX9_says_X9_mutters : GoodIn wsX9_says wsX9_mutters := goodIn_r _ [17, 1, 18, 19, 20, 6, 21, 3, 4, 5, 7, 8, 9, 22, 23, 24, 25, 26, 27, 28, 29, 30, 31, 32, 33, 34, 35, 36, 37, 38, 39, 40, 41, 42, 43, 44, 45, 46, 47, 48, 49, 50, 51, 52, 53, 54, 55] (by decide +kernel) (by decide +kernel)
set_option maxRecDepth 20000 in
theorem gX9_says_X9_mutters : GoodIn wsX9_says (wsV RX9 312 RX9 yX9_mutters wsX9_mutters) := goodIn_app (goodIn_of _ (by decide +kernel)) ggX9_says_X9_mutters
theorem dX9_says_0 : decode cX9_says 0 = .ok (.aload_n 0, 1) := by decide +kernel
theorem dX9_says_1 : decode cX9_says 1 = .ok (.getfield 306, 3) := by decide +kernel
theorem dX9_says_4 : decode cX9_says 4 = .ok (.iconst 1, 1) := by decide +kernel
theorem dX9_says_5 : decode cX9_says 5 = .ok (.if_icmp .eq 11, 3) := by decide +kernel
theorem dX9_says_8 : decode cX9_says 8 = .ok (.aload_n 0, 1) := by decide +kernel
theorem dX9_says_9 : decode cX9_says 9 = .ok (.getfield 306, 3) := by decide +kernel
theorem dX9_says_12 : decode cX9_says 12 = .ok (.iconst 3, 1) := by decide +kernel
theorem dX9_says_13 : decode cX9_says 13 = .ok (.if_icmp .ne 17, 3) := by decide +kernel
theorem dX9_says_16 : decode cX9_says 16 = .ok (.aload_n 0, 1) := by decide +kernel
theorem dX9_says_17 : decode cX9_says 17 = .ok (.bipush 20, 2) := by decide +kernel
theorem dX9_says_19 : decode cX9_says 19 = .ok (.invokevirtual 297, 3) := by decide +kernel
theorem dX9_says_22 : decode cX9_says 22 = .ok (.aload_n 0, 1) := by decide +kernel
theorem dX9_says_23 : decode cX9_says 23 = .ok (.iload_n 1, 1) := by decide +kernel
theorem dX9_says_24 : decode cX9_says 24 = .ok (.invokevirtual 318, 3) := by decide +kernel
theorem dX9_says_27 : decode cX9_says 27 = .ok (.iconst 3, 1) := by decide +kernel
theorem dX9_says_28 : decode cX9_says 28 = .ok (.imul, 1) := by decide +kernel
theorem dX9_says_29 : decode cX9_says 29 = .ok (.ireturn, 1) := by decide +kernel
theorem dX9_says_30 : decode cX9_says 30 = .ok (.aload_n 0, 1) := by decide +kernel
theorem dX9_says_31 : decode cX9_says 31 = .ok (.getfield 306, 3) := by decide +kernel
theorem dX9_says_34 : decode cX9_says 34 = .ok (.iconst 4, 1) := by decide +kernel
theorem dX9_says_35 : decode cX9_says 35 = .ok (.if_icmp .ne 26, 3) := by decide +kernel
theorem dX9_says_38 : decode cX9_says 38 = .ok (.aload_n 0, 1) := by decide +kernel
theorem dX9_says_39 : decode cX9_says 39 = .ok (.bipush 41, 2) := by decide +kernel
theorem dX9_says_41 : decode cX9_says 41 = .ok (.invokevirtual 297, 3) := by decide +kernel
theorem dX9_says_44 : decode cX9_says 44 = .ok (.aload_n 0, 1) := by decide +kernel
theorem dX9_says_45 : decode cX9_says 45 = .ok (.iload_n 1, 1) := by decide +kernel
theorem dX9_says_46 : decode cX9_says 46 = .ok (.invokevirtual 318, 3) := by decide +kernel
theorem dX9_says_49 : decode cX9_says 49 = .ok (.istore_n 2, 1) := by decide +kernel
theorem dX9_says_50 : decode cX9_says 50 = .ok (.iload_n 2, 1) := by decide +kernel
theorem dX9_says_51 : decode cX9_says 51 = .ok (.aload_n 0, 1) := by decide +kernel
theorem dX9_says_52 : decode cX9_says 52 = .ok (.aload_n 0, 1) := by decide +kernel
theorem dX9_says_53 : decode cX9_says 53 = .ok (.getfield 315, 3) := by decide +kernel
theorem dX9_says_56 : decode cX9_says 56 = .ok (.invokevirtual 312, 3) := by decide +kernel
theorem dX9_says_59 : decode cX9_says 59 = .ok (.ixor, 1) := by decide +kernel
theorem dX9_says_60 : decode cX9_says 60 = .ok (.ireturn, 1) := by decide +kernel
theorem dX9_says_61 : decode cX9_says 61 = .ok (.aload_n 0, 1) := by decide +kernel
theorem dX9_says_62 : decode cX9_says 62 = .ok (.iload_n 1, 1) := by decide +kernel
theorem dX9_says_63 : decode cX9_says 63 = .ok (.invokevirtual 318, 3) := by decide +kernel
theorem dX9_says_66 : decode cX9_says 66 = .ok (.ireturn, 1) := by decide +kernel
set_option maxRecDepth 20000 in
theorem ggX9_partsPlain_X9_runs : GoodIn wsX9_partsPlain wsX9_runs := goodIn_r _ [8, 9, 10, 11, 12, 13, 14, 15, 16, 17, 18, 19, 20, 21, 22, 23, 24, 25, 26, 27, 28, 29, 30, 31, 32, 33, 34, 35, 36, 37, 38, 39] (by decide +kernel) (by decide +kernel)
set_option maxRecDepth 20000 in
theorem gX9_partsPlain_X9_runs : GoodIn wsX9_partsPlain (wsV RX9 297 RX9 yX9_runs wsX9_runs) := goodIn_app (goodIn_of _ (by decide +kernel)) ggX9_partsPlain_X9_runs
theorem dX9_partsPlain_0 : decode cX9_partsPlain 0 = .ok (.aload_n 0, 1) := by decide +kernel
theorem dX9_partsPlain_1 : decode cX9_partsPlain 1 = .ok (.bipush 12, 2) := by decide +kernel
theorem dX9_partsPlain_3 : decode cX9_partsPlain 3 = .ok (.invokevirtual 297, 3) := by decide +kernel
theorem dX9_partsPlain_6 : decode cX9_partsPlain 6 = .ok (.aload_n 0, 1) := by decide +kernel
theorem dX9_partsPlain_7 : decode cX9_partsPlain 7 = .ok (.aload_n 0, 1) := by decide +kernel
theorem dX9_partsPlain_8 : decode cX9_partsPlain 8 = .ok (.getfield 321, 3) := by decide +kernel
theorem dX9_partsPlain_11 : decode cX9_partsPlain 11 = .ok (.ifCond .ne 14, 3) := by decide +kernel
theorem dX9_partsPlain_14 : decode cX9_partsPlain 14 = .ok (.aload_n 0, 1) := by decide +kernel
theorem dX9_partsPlain_15 : decode cX9_partsPlain 15 = .ok (.getfield 300, 3) := by decide +kernel
theorem dX9_partsPlain_18 : decode cX9_partsPlain 18 = .ok (.aload_n 0, 1) := by decide +kernel
theorem dX9_partsPlain_19 : decode cX9_partsPlain 19 = .ok (.getfield 315, 3) := by decide +kernel
theorem dX9_partsPlain_22 : decode cX9_partsPlain 22 = .ok (.if_icmp .ne 7, 3) := by decide +kernel
theorem dX9_partsPlain_25 : decode cX9_partsPlain 25 = .ok (.iconst 1, 1) := by decide +kernel
theorem dX9_partsPlain_26 : decode cX9_partsPlain 26 = .ok (.goto 4, 3) := by decide +kernel
theorem dX9_partsPlain_29 : decode cX9_partsPlain 29 = .ok (.iconst 0, 1) := by decide +kernel
theorem dX9_partsPlain_30 : decode cX9_partsPlain 30 = .ok (.putfield 321, 3) := by decide +kernel
theorem dX9_partsPlain_33 : decode cX9_partsPlain 33 = .ok (.aload_n 0, 1) := by decide +kernel
theorem dX9_partsPlain_34 : decode cX9_partsPlain 34 = .ok (.getfield 321, 3) := by decide +kernel
theorem dX9_partsPlain_37 : decode cX9_partsPlain 37 = .ok (.ifCond .eq 7, 3) := by decide +kernel
theorem dX9_partsPlain_40 : decode cX9_partsPlain 40 = .ok (.iconst 0, 1) := by decide +kernel
theorem dX9_partsPlain_41 : decode cX9_partsPlain 41 = .ok (.goto 14, 3) := by decide +kernel
theorem dX9_partsPlain_44 : decode cX9_partsPlain 44 = .ok (.iload_n 1, 1) := by decide +kernel
theorem dX9_partsPlain_45 : decode cX9_partsPlain 45 = .ok (.aload_n 0, 1) := by decide +kernel
theorem dX9_partsPlain_46 : decode cX9_partsPlain 46 = .ok (.getfield 315, 3) := by decide +kernel
theorem dX9_partsPlain_49 : decode cX9_partsPlain 49 = .ok (.aload_n 0, 1) := by decide +kernel
theorem dX9_partsPlain_50 : decode cX9_partsPlain 50 = .ok (.getfield 300, 3) := by decide +kernel
theorem dX9_partsPlain_53 : decode cX9_partsPlain 53 = .ok (.isub, 1) := by decide +kernel
theorem dX9_partsPlain_54 : decode cX9_partsPlain 54 = .ok (.idiv, 1) := by decide +kernel
theorem dX9_partsPlain_55 : decode cX9_partsPlain 55 = .ok (.ireturn, 1) := by decide +kernel
set_option maxRecDepth 20000 in
theorem ggX9_parts_X9_runs : GoodIn wsX9_parts wsX9_runs := goodIn_r _ [8, 9, 10, 28, 29, 30, 31, 32, 33, 34, 35, 36, 37, 38, 39, 40, 41, 42, 43, 44, 45, 46, 47, 48, 49, 50, 51, 52, 53, 54, 55, 56] (by decide +kernel) (by decide +kernel)
set_option maxRecDepth 20000 in
theorem gX9_parts_X9_runs : GoodIn wsX9_parts (wsV RX9 297 RX9 yX9_runs wsX9_runs) := goodIn_app (goodIn_of _ (by decide +kernel)) ggX9_parts_X9_runs
set_option maxRecDepth 20000 in
theorem ggX9_parts_X9_partsPlain : GoodIn wsX9_parts wsX9_partsPlain := goodIn_r _ [14, 3, 2, 15, 4, 5, 6, 7, 8, 9, 10, 28, 29, 30, 31, 32, 33, 34, 35, 36, 37, 38, 39, 40, 41, 42, 43, 44, 45, 46, 47, 48, 49, 50, 51, 52, 53, 54, 55, 56] (by decide +kernel) (by decide +kernel)
set_option maxRecDepth 20000 in
theorem gX9_parts_X9_partsPlain : GoodIn wsX9_parts (wsV RX9 324 RX9 yX9_partsPlain wsX9_partsPlain) := goodIn_app (goodIn_of _ (by decide +kernel)) ggX9_parts_X9_partsPlain
set_option maxRecDepth 20000 in
theorem ggX9_parts_X9_mutters : GoodIn wsX9_parts wsX9_mutters := goodIn_r _ [19, 1, 20, 21, 22, 7, 23, 4, 5, 6, 8, 9, 10, 24, 25, 26, 27, 2, 28, 29, 30, 31, 32, 33, 34, 35, 36, 37, 38, 39, 40, 41, 42, 43, 44, 45, 46, 47, 48, 49, 50, 51, 52, 53, 54, 55, 56] (by decide +kernel) (by decide +kernel)
set_option maxRecDepth 20000 in
theorem gX9_parts_X9_mutters : GoodIn wsX9_parts (wsV RX9 312 RX9 yX9_mutters wsX9_mutters) := goodIn_app (goodIn_of _ (by decide +kernel)) ggX9_parts_X9_mutters
theorem dX9_parts_0 : decode cX9_parts 0 = .ok (.aload_n 0, 1) := by decide +kernel
theorem dX9_parts_1 : decode cX9_parts 1 = .ok (.getfield 306, 3) := by decide +kernel
theorem dX9_parts_4 : decode cX9_parts 4 = .ok (.iconst 3, 1) := by decide +kernel
theorem dX9_parts_5 : decode cX9_parts 5 = .ok (.if_icmp .ne 22, 3) := by decide +kernel
theorem dX9_parts_8 : decode cX9_parts 8 = .ok (.aload_n 0, 1) := by decide +kernel
theorem dX9_parts_9 : decode cX9_parts 9 = .ok (.bipush 50, 2) := by decide +kernel
theorem dX9_parts_11 : decode cX9_parts 11 = .ok (.invokevirtual 297, 3) := by decide +kernel
theorem dX9_parts_14 : decode cX9_parts 14 = .ok (.aload_n 0, 1) := by decide +kernel
theorem dX9_parts_15 : decode cX9_parts 15 = .ok (.iload_n 1, 1) := by decide +kernel
theorem dX9_parts_16 : decode cX9_parts 16 = .ok (.iconst 2, 1) := by decide +kernel
theorem dX9_parts_17 : decode cX9_parts 17 = .ok (.imul, 1) := by decide +kernel
theorem dX9_parts_18 : decode cX9_parts 18 = .ok (.invokevirtual 324, 3) := by decide +kernel
theorem dX9_parts_21 : decode cX9_parts 21 = .ok (.aload_n 0, 1) := by decide +kernel
theorem dX9_parts_22 : decode cX9_parts 22 = .ok (.getfield 300, 3) := by decide +kernel
theorem dX9_parts_25 : decode cX9_parts 25 = .ok (.iadd, 1) := by decide +kernel
theorem dX9_parts_26 : decode cX9_parts 26 = .ok (.ireturn, 1) := by decide +kernel
theorem dX9_parts_27 : decode cX9_parts 27 = .ok (.aload_n 0, 1) := by decide +kernel
theorem dX9_parts_28 : decode cX9_parts 28 = .ok (.getfield 306, 3) := by decide +kernel
theorem dX9_parts_31 : decode cX9_parts 31 = .ok (.iconst 5, 1) := by decide +kernel
theorem dX9_parts_32 : decode cX9_parts 32 = .ok (.if_icmp .ne 37, 3) := by decide +kernel
theorem dX9_parts_35 : decode cX9_parts 35 = .ok (.aload_n 0, 1) := by decide +kernel
theorem dX9_parts_36 : decode cX9_parts 36 = .ok (.bipush 61, 2) := by decide +kernel
theorem dX9_parts_38 : decode cX9_parts 38 = .ok (.invokevirtual 297, 3) := by decide +kernel
theorem dX9_parts_41 : decode cX9_parts 41 = .ok (.aload_n 0, 1) := by decide +kernel
theorem dX9_parts_42 : decode cX9_parts 42 = .ok (.iload_n 1, 1) := by decide +kernel
theorem dX9_parts_43 : decode cX9_parts 43 = .ok (.invokevirtual 324, 3) := by decide +kernel
theorem dX9_parts_46 : decode cX9_parts 46 = .ok (.istore_n 2, 1) := by decide +kernel
theorem dX9_parts_47 : decode cX9_parts 47 = .ok (.aload_n 0, 1) := by decide +kernel
theorem dX9_parts_48 : decode cX9_parts 48 = .ok (.getfield 321, 3) := by decide +kernel
theorem dX9_parts_51 : decode cX9_parts 51 = .ok (.ifCond .eq 7, 3) := by decide +kernel
theorem dX9_parts_54 : decode cX9_parts 54 = .ok (.iconst 0, 1) := by decide +kernel
theorem dX9_parts_55 : decode cX9_parts 55 = .ok (.goto 13, 3) := by decide +kernel
theorem dX9_parts_58 : decode cX9_parts 58 = .ok (.iload_n 2, 1) := by decide +kernel
theorem dX9_parts_59 : decode cX9_parts 59 = .ok (.aload_n 0, 1) := by decide +kernel
theorem dX9_parts_60 : decode cX9_parts 60 = .ok (.aload_n 0, 1) := by decide +kernel
theorem dX9_parts_61 : decode cX9_parts 61 = .ok (.getfield 300, 3) := by decide +kernel
theorem dX9_parts_64 : decode cX9_parts 64 = .ok (.invokevirtual 312, 3) := by decide +kernel
theorem dX9_parts_67 : decode cX9_parts 67 = .ok (.iadd, 1) := by decide +kernel
theorem dX9_parts_68 : decode cX9_parts 68 = .ok (.ireturn, 1) := by decide +kernel
theorem dX9_parts_69 : decode cX9_parts 69 = .ok (.aload_n 0, 1) := by decide +kernel
theorem dX9_parts_70 : decode cX9_parts 70 = .ok (.iload_n 1, 1) := by decide +kernel
theorem dX9_parts_71 : decode cX9_parts 71 = .ok (.invokevirtual 324, 3) := by decide +kernel
theorem dX9_parts_74 : decode cX9_parts 74 = .ok (.ireturn, 1) := by decide +kernel
set_option maxRecDepth 20000 in
theorem ggX9_shoutsPlain_X9_runs : GoodIn wsX9_shoutsPlain wsX9_runs := goodIn_r _ [5, 6, 7, 31, 32, 33, 34, 35, 36, 37, 38, 39, 40, 41, 42, 43, 44, 45, 46, 47, 48, 49, 50, 51, 52, 53, 54, 55, 56, 57, 58, 59] (by decide +kernel) (by decide +kernel)
set_option maxRecDepth 20000 in
theorem gX9_shoutsPlain_X9_runs : GoodIn wsX9_shoutsPlain (wsV RX9 297 RX9 yX9_runs wsX9_runs) := goodIn_app (goodIn_of _ (by decide +kernel)) ggX9_shoutsPlain_X9_runs
set_option maxRecDepth 20000 in
theorem ggX9_shoutsPlain_X9_says : GoodIn wsX9_shoutsPlain wsX9_says := goodIn_r _ [11, 12, 13, 1, 2, 3, 4, 5, 6, 7, 14, 15, 16, 17, 18, 19, 20, 21, 22, 23, 24, 25, 26, 27, 28, 29, 30, 31, 32, 33, 34, 35, 36, 37, 38, 39, 40, 41, 42, 43, 44, 45, 46, 47, 48, 49, 50, 51, 52, 53, 54, 55, 56, 57, 58, 59] (by decide +kernel) (by decide +kernel)
set_option maxRecDepth 20000 in
theorem gX9_shoutsPlain_X9_says : GoodIn wsX9_shoutsPlain (wsV RX9 327 RX9 yX9_says wsX9_says) := goodIn_app (goodIn_of _ (by decide +kernel)) ggX9_shoutsPlain_X9_says
theorem dX9_shoutsPlain_0 : decode cX9_shoutsPlain 0 = .ok (.aload_n 0, 1) := by decide +kernel
theorem dX9_shoutsPlain_1 : decode cX9_shoutsPlain 1 = .ok (.bipush 13, 2) := by decide +kernel
theorem dX9_shoutsPlain_3 : decode cX9_shoutsPlain 3 = .ok (.invokevirtual 297, 3) := by decide +kernel
theorem dX9_shoutsPlain_6 : decode cX9_shoutsPlain 6 = .ok (.aload_n 0, 1) := by decide +kernel
theorem dX9_shoutsPlain_7 : decode cX9_shoutsPlain 7 = .ok (.iload_n 1, 1) := by decide +kernel
theorem dX9_shoutsPlain_8 : decode cX9_shoutsPlain 8 = .ok (.invokevirtual 327, 3) := by decide +kernel
theorem dX9_shoutsPlain_11 : decode cX9_shoutsPlain 11 = .ok (.bipush 60, 2) := by decide +kernel
theorem dX9_shoutsPlain_13 : decode cX9_shoutsPlain 13 = .ok (.ixor, 1) := by decide +kernel
theorem dX9_shoutsPlain_14 : decode cX9_shoutsPlain 14 = .ok (.ireturn, 1) := by decide +kernel
set_option maxRecDepth 20000 in
theorem ggX9_shouts_X9_runs : GoodIn wsX9_shouts wsX9_runs := goodIn_r _ [7, 8, 9, 44, 45, 46, 47, 48, 49, 50, 51, 52, 53, 54, 55, 56, 57, 58, 59, 60, 61, 62, 63, 64, 65, 66, 67, 68, 69, 70, 71, 72] (by decide +kernel) (by decide +kernel)
set_option maxRecDepth 20000 in
theorem gX9_shouts_X9_runs : GoodIn wsX9_shouts (wsV RX9 297 RX9 yX9_runs wsX9_runs) := goodIn_app (goodIn_of _ (by decide +kernel)) ggX9_shouts_X9_runs
set_option maxRecDepth 20000 in
theorem ggX9_shouts_X9_shoutsPlain : GoodIn wsX9_shouts wsX9_shoutsPlain := goodIn_r _ [13, 3, 4, 5, 6, 7, 8, 9, 14, 15, 16, 17, 1, 18, 19, 20, 21, 22, 23, 24, 25, 26, 27, 28, 29, 30, 31, 32, 33, 34, 2, 44, 45, 46, 47, 48, 49, 50, 51, 52, 53, 54, 55, 56, 57, 58, 59, 60, 61, 62, 63, 64, 65, 66, 67, 68, 69, 70, 71, 72] (by decide +kernel) (by decide +kernel)
set_option maxRecDepth 20000 in
theorem gX9_shouts_X9_shoutsPlain : GoodIn wsX9_shouts (wsV RX9 330 RX9 yX9_shoutsPlain wsX9_shoutsPlain) := goodIn_app (goodIn_of _ (by decide +kernel)) ggX9_shouts_X9_shoutsPlain
set_option maxRecDepth 20000 in
theorem ggX9_shouts_X9_parts : GoodIn wsX9_shouts wsX9_parts := goodIn_r _ [38, 1, 2, 39, 3, 4, 5, 6, 7, 8, 9, 40, 41, 42, 43, 18, 23, 24, 25, 26, 27, 28, 29, 30, 31, 32, 33, 34, 44, 45, 46, 47, 48, 49, 50, 51, 52, 53, 54, 55, 56, 57, 58, 59, 60, 61, 62, 63, 64, 65, 66, 67, 68, 69, 70, 71, 72] (by decide +kernel) (by decide +kernel)
set_option maxRecDepth 20000 in
theorem gX9_shouts_X9_parts : GoodIn wsX9_shouts (wsV RX9 333 RX9 yX9_parts wsX9_parts) := goodIn_app (goodIn_of _ (by decide +kernel)) ggX9_shouts_X9_parts
theorem dX9_shouts_0 : decode cX9_shouts 0 = .ok (.aload_n 0, 1) := by decide +kernel
theorem dX9_shouts_1 : decode cX9_shouts 1 = .ok (.getfield 306, 3) := by decide +kernel
theorem dX9_shouts_4 : decode cX9_shouts 4 = .ok (.iconst 2, 1) := by decide +kernel
theorem dX9_shouts_5 : decode cX9_shouts 5 = .ok (.if_icmp .eq 11, 3) := by decide +kernel
theorem dX9_shouts_8 : decode cX9_shouts 8 = .ok (.aload_n 0, 1) := by decide +kernel
theorem dX9_shouts_9 : decode cX9_shouts 9 = .ok (.getfield 306, 3) := by decide +kernel
theorem dX9_shouts_12 : decode cX9_shouts 12 = .ok (.iconst 4, 1) := by decide +kernel
theorem dX9_shouts_13 : decode cX9_shouts 13 = .ok (.if_icmp .ne 26, 3) := by decide +kernel
theorem dX9_shouts_16 : decode cX9_shouts 16 = .ok (.aload_n 0, 1) := by decide +kernel
theorem dX9_shouts_17 : decode cX9_shouts 17 = .ok (.bipush 31, 2) := by decide +kernel
theorem dX9_shouts_19 : decode cX9_shouts 19 = .ok (.invokevirtual 297, 3) := by decide +kernel
theorem dX9_shouts_22 : decode cX9_shouts 22 = .ok (.aload_n 0, 1) := by decide +kernel
theorem dX9_shouts_23 : decode cX9_shouts 23 = .ok (.iload_n 1, 1) := by decide +kernel
theorem dX9_shouts_24 : decode cX9_shouts 24 = .ok (.invokevirtual 330, 3) := by decide +kernel
theorem dX9_shouts_27 : decode cX9_shouts 27 = .ok (.istore_n 2, 1) := by decide +kernel
theorem dX9_shouts_28 : decode cX9_shouts 28 = .ok (.iload_n 2, 1) := by decide +kernel
theorem dX9_shouts_29 : decode cX9_shouts 29 = .ok (.aload_n 0, 1) := by decide +kernel
theorem dX9_shouts_30 : decode cX9_shouts 30 = .ok (.aload_n 0, 1) := by decide +kernel
theorem dX9_shouts_31 : decode cX9_shouts 31 = .ok (.getfield 300, 3) := by decide +kernel
theorem dX9_shouts_34 : decode cX9_shouts 34 = .ok (.invokevirtual 333, 3) := by decide +kernel
theorem dX9_shouts_37 : decode cX9_shouts 37 = .ok (.iadd, 1) := by decide +kernel
theorem dX9_shouts_38 : decode cX9_shouts 38 = .ok (.ireturn, 1) := by decide +kernel
theorem dX9_shouts_39 : decode cX9_shouts 39 = .ok (.aload_n 0, 1) := by decide +kernel
theorem dX9_shouts_40 : decode cX9_shouts 40 = .ok (.getfield 306, 3) := by decide +kernel
theorem dX9_shouts_43 : decode cX9_shouts 43 = .ok (.iconst 5, 1) := by decide +kernel
theorem dX9_shouts_44 : decode cX9_shouts 44 = .ok (.if_icmp .ne 18, 3) := by decide +kernel
theorem dX9_shouts_47 : decode cX9_shouts 47 = .ok (.aload_n 0, 1) := by decide +kernel
theorem dX9_shouts_48 : decode cX9_shouts 48 = .ok (.bipush 60, 2) := by decide +kernel
theorem dX9_shouts_50 : decode cX9_shouts 50 = .ok (.invokevirtual 297, 3) := by decide +kernel
theorem dX9_shouts_53 : decode cX9_shouts 53 = .ok (.bipush 9, 2) := by decide +kernel
theorem dX9_shouts_55 : decode cX9_shouts 55 = .ok (.aload_n 0, 1) := by decide +kernel
theorem dX9_shouts_56 : decode cX9_shouts 56 = .ok (.iload_n 1, 1) := by decide +kernel
theorem dX9_shouts_57 : decode cX9_shouts 57 = .ok (.invokevirtual 330, 3) := by decide +kernel
theorem dX9_shouts_60 : decode cX9_shouts 60 = .ok (.isub, 1) := by decide +kernel
theorem dX9_shouts_61 : decode cX9_shouts 61 = .ok (.ireturn, 1) := by decide +kernel
theorem dX9_shouts_62 : decode cX9_shouts 62 = .ok (.aload_n 0, 1) := by decide +kernel
theorem dX9_shouts_63 : decode cX9_shouts 63 = .ok (.iload_n 1, 1) := by decide +kernel
theorem dX9_shouts_64 : decode cX9_shouts 64 = .ok (.invokevirtual 330, 3) := by decide +kernel
theorem dX9_shouts_67 : decode cX9_shouts 67 = .ok (.ireturn, 1) := by decide +kernel
set_option maxRecDepth 20000 in
theorem ggX9_act_X9_isShelf : GoodIn wsX9_act wsX9_isShelf := goodIn_r _ [11, 2, 12, 13, 10, 14] (by decide +kernel) (by decide +kernel)
set_option maxRecDepth 20000 in
theorem gX9_act_X9_isShelf : GoodIn wsX9_act (va_wsS RX9 281 yX9_isShelf wsX9_isShelf) := goodIn_app (goodIn_of _ (by decide +kernel)) ggX9_act_X9_isShelf
set_option maxRecDepth 20000 in
theorem ggX9_act_X9_isIn : GoodIn wsX9_act wsX9_isIn := goodIn_r _ [14] (by decide +kernel) (by decide +kernel)
set_option maxRecDepth 20000 in
theorem gX9_act_X9_isIn : GoodIn wsX9_act (va_wsS RX9 60 yX9_isIn wsX9_isIn) := goodIn_app (goodIn_of _ (by decide +kernel)) ggX9_act_X9_isIn
set_option maxRecDepth 20000 in
theorem ggX9_act_X9_heldOn : GoodIn wsX9_act wsX9_heldOn := goodIn_r _ [18, 19, 4, 20, 21, 22, 10, 23, 24, 70, 71, 72, 73, 74, 75, 76, 77, 78, 79, 80, 81, 82, 83, 84, 85, 86, 87, 88, 89, 90, 91, 92, 93, 94, 95, 96, 97, 98] (by decide +kernel) (by decide +kernel)
set_option maxRecDepth 20000 in
theorem gX9_act_X9_heldOn : GoodIn wsX9_act (wsV RX9 288 RX9 yX9_heldOn wsX9_heldOn) := goodIn_app (goodIn_of _ (by decide +kernel)) ggX9_act_X9_heldOn
set_option maxRecDepth 20000 in
theorem ggX9_act_X9_its : GoodIn wsX9_act wsX9_its := goodIn_r _ [28, 24, 70, 71, 72, 73, 74, 75, 76, 77, 78, 79, 80, 81, 82, 83, 84, 85, 86, 87, 88, 89, 90, 91, 92, 93, 94, 95, 96, 97, 98] (by decide +kernel) (by decide +kernel)
set_option maxRecDepth 20000 in
theorem gX9_act_X9_its : GoodIn wsX9_act (wsV RX9 172 RX9 yX9_its wsX9_its) := goodIn_app (goodIn_of _ (by decide +kernel)) ggX9_act_X9_its
set_option maxRecDepth 20000 in
theorem ggX9_act_X9_mutters : GoodIn wsX9_act wsX9_mutters := goodIn_r _ [32, 5, 33, 34, 35, 10, 36, 37, 38, 39, 40, 1, 41, 42, 43, 44, 45, 6, 70, 71, 72, 73, 74, 75, 76, 77, 78, 79, 80, 81, 82, 83, 84, 85, 86, 87, 88, 89, 90, 91, 92, 93, 94, 95, 96, 97, 98] (by decide +kernel) (by decide +kernel)
set_option maxRecDepth 20000 in
theorem gX9_act_X9_mutters : GoodIn wsX9_act (wsV RX9 312 RX9 yX9_mutters wsX9_mutters) := goodIn_app (goodIn_of _ (by decide +kernel)) ggX9_act_X9_mutters
set_option maxRecDepth 20000 in
theorem ggX9_act_X9_says : GoodIn wsX9_act wsX9_says := goodIn_r _ [49, 5, 7, 37, 38, 39, 10, 40, 1, 41, 50, 51, 52, 53, 29, 30, 31, 32, 33, 34, 35, 36, 42, 43, 44, 45, 6, 70, 71, 72, 73, 74, 75, 76, 77, 78, 79, 80, 81, 82, 83, 84, 85, 86, 87, 88, 89, 90, 91, 92, 93, 94, 95, 96, 97, 98] (by decide +kernel) (by decide +kernel)
set_option maxRecDepth 20000 in
theorem gX9_act_X9_says : GoodIn wsX9_act (wsV RX9 327 RX9 yX9_says wsX9_says) := goodIn_app (goodIn_of _ (by decide +kernel)) ggX9_act_X9_says
set_option maxRecDepth 20000 in
theorem ggX9_act_X9_parts : GoodIn wsX9_act wsX9_parts := goodIn_r _ [57, 5, 6, 3, 37, 38, 39, 10, 40, 1, 41, 58, 59, 60, 61, 7, 29, 30, 31, 32, 33, 34, 35, 36, 42, 43, 44, 45, 70, 71, 72, 73, 74, 75, 76, 77, 78, 79, 80, 81, 82, 83, 84, 85, 86, 87, 88, 89, 90, 91, 92, 93, 94, 95, 96, 97, 98] (by decide +kernel) (by decide +kernel)
set_option maxRecDepth 20000 in
theorem gX9_act_X9_parts : GoodIn wsX9_act (wsV RX9 333 RX9 yX9_parts wsX9_parts) := goodIn_app (goodIn_of _ (by decide +kernel)) ggX9_act_X9_parts
set_option maxRecDepth 20000 in
theorem ggX9_act_X9_shouts : GoodIn wsX9_act wsX9_shouts := goodIn_r _ [65, 5, 6, 37, 38, 39, 10, 40, 1, 41, 66, 67, 68, 69, 46, 47, 48, 49, 7, 50, 51, 52, 53, 29, 30, 31, 32, 33, 34, 35, 36, 42, 43, 44, 45, 54, 55, 56, 57, 3, 58, 59, 60, 61, 70, 71, 72, 73, 74, 75, 76, 77, 78, 79, 80, 81, 82, 83, 84, 85, 86, 87, 88, 89, 90, 91, 92, 93, 94, 95, 96, 97, 98] (by decide +kernel) (by decide +kernel)
set_option maxRecDepth 20000 in
theorem gX9_act_X9_shouts : GoodIn wsX9_act (wsV RX9 336 RX9 yX9_shouts wsX9_shouts) := goodIn_app (goodIn_of _ (by decide +kernel)) ggX9_act_X9_shouts
theorem dX9_act_0 : decode cX9_act 0 = .ok (.aload_n 0, 1) := by decide +kernel
theorem dX9_act_1 : decode cX9_act 1 = .ok (.iconst 0, 1) := by decide +kernel
theorem dX9_act_2 : decode cX9_act 2 = .ok (.putfield 294, 3) := by decide +kernel
theorem dX9_act_5 : decode cX9_act 5 = .ok (.iload_n 1, 1) := by decide +kernel
theorem dX9_act_6 : decode cX9_act 6 = .ok (.invokestatic 281, 3) := by decide +kernel
theorem dX9_act_9 : decode cX9_act 9 = .ok (.ifCond .eq 24, 3) := by decide +kernel
theorem dX9_act_12 : decode cX9_act 12 = .ok (.iload_n 2, 1) := by decide +kernel
theorem dX9_act_13 : decode cX9_act 13 = .ok (.i2l, 1) := by decide +kernel
theorem dX9_act_14 : decode cX9_act 14 = .ok (.lconst 0, 1) := by decide +kernel
theorem dX9_act_15 : decode cX9_act 15 = .ok (.ldc2_w 160, 3) := by decide +kernel
theorem dX9_act_18 : decode cX9_act 18 = .ok (.invokestatic 60, 3) := by decide +kernel
theorem dX9_act_21 : decode cX9_act 21 = .ok (.ifCond .eq 12, 3) := by decide +kernel
theorem dX9_act_24 : decode cX9_act 24 = .ok (.aload_n 0, 1) := by decide +kernel
theorem dX9_act_25 : decode cX9_act 25 = .ok (.iload_n 1, 1) := by decide +kernel
theorem dX9_act_26 : decode cX9_act 26 = .ok (.invokevirtual 288, 3) := by decide +kernel
theorem dX9_act_29 : decode cX9_act 29 = .ok (.iconst 1, 1) := by decide +kernel
theorem dX9_act_30 : decode cX9_act 30 = .ok (.if_icmp .eq 5, 3) := by decide +kernel
theorem dX9_act_33 : decode cX9_act 33 = .ok (.iconst 0, 1) := by decide +kernel
theorem dX9_act_34 : decode cX9_act 34 = .ok (.ireturn, 1) := by decide +kernel
theorem dX9_act_35 : decode cX9_act 35 = .ok (.aload_n 0, 1) := by decide +kernel
theorem dX9_act_36 : decode cX9_act 36 = .ok (.iconst 0, 1) := by decide +kernel
theorem dX9_act_37 : decode cX9_act 37 = .ok (.putfield 321, 3) := by decide +kernel
theorem dX9_act_40 : decode cX9_act 40 = .ok (.aload_n 0, 1) := by decide +kernel
theorem dX9_act_41 : decode cX9_act 41 = .ok (.aload_n 0, 1) := by decide +kernel
theorem dX9_act_42 : decode cX9_act 42 = .ok (.aload_n 0, 1) := by decide +kernel
theorem dX9_act_43 : decode cX9_act 43 = .ok (.getfield 46, 3) := by decide +kernel
theorem dX9_act_46 : decode cX9_act 46 = .ok (.iload_n 1, 1) := by decide +kernel
theorem dX9_act_47 : decode cX9_act 47 = .ok (.iaload, 1) := by decide +kernel
theorem dX9_act_48 : decode cX9_act 48 = .ok (.iconst 0, 1) := by decide +kernel
theorem dX9_act_49 : decode cX9_act 49 = .ok (.invokevirtual 172, 3) := by decide +kernel
theorem dX9_act_52 : decode cX9_act 52 = .ok (.putfield 306, 3) := by decide +kernel
theorem dX9_act_55 : decode cX9_act 55 = .ok (.aload_n 0, 1) := by decide +kernel
theorem dX9_act_56 : decode cX9_act 56 = .ok (.aload_n 0, 1) := by decide +kernel
theorem dX9_act_57 : decode cX9_act 57 = .ok (.getfield 46, 3) := by decide +kernel
theorem dX9_act_60 : decode cX9_act 60 = .ok (.iload_n 1, 1) := by decide +kernel
theorem dX9_act_61 : decode cX9_act 61 = .ok (.iaload, 1) := by decide +kernel
theorem dX9_act_62 : decode cX9_act 62 = .ok (.putfield 300, 3) := by decide +kernel
theorem dX9_act_65 : decode cX9_act 65 = .ok (.aload_n 0, 1) := by decide +kernel
theorem dX9_act_66 : decode cX9_act 66 = .ok (.aload_n 0, 1) := by decide +kernel
theorem dX9_act_67 : decode cX9_act 67 = .ok (.aload_n 0, 1) := by decide +kernel
theorem dX9_act_68 : decode cX9_act 68 = .ok (.getfield 46, 3) := by decide +kernel
theorem dX9_act_71 : decode cX9_act 71 = .ok (.iload_n 1, 1) := by decide +kernel
theorem dX9_act_72 : decode cX9_act 72 = .ok (.iaload, 1) := by decide +kernel
theorem dX9_act_73 : decode cX9_act 73 = .ok (.iconst 3, 1) := by decide +kernel
theorem dX9_act_74 : decode cX9_act 74 = .ok (.invokevirtual 172, 3) := by decide +kernel
theorem dX9_act_77 : decode cX9_act 77 = .ok (.putfield 315, 3) := by decide +kernel
theorem dX9_act_80 : decode cX9_act 80 = .ok (.iload_n 2, 1) := by decide +kernel
theorem dX9_act_81 : decode cX9_act 81 = .ok (.ifCond .ne 11, 3) := by decide +kernel
theorem dX9_act_84 : decode cX9_act 84 = .ok (.aload_n 0, 1) := by decide +kernel
theorem dX9_act_85 : decode cX9_act 85 = .ok (.iload_n 3, 1) := by decide +kernel
theorem dX9_act_86 : decode cX9_act 86 = .ok (.invokevirtual 312, 3) := by decide +kernel
theorem dX9_act_89 : decode cX9_act 89 = .ok (.goto 34, 3) := by decide +kernel
theorem dX9_act_92 : decode cX9_act 92 = .ok (.iload_n 2, 1) := by decide +kernel
theorem dX9_act_93 : decode cX9_act 93 = .ok (.iconst 1, 1) := by decide +kernel
theorem dX9_act_94 : decode cX9_act 94 = .ok (.if_icmp .ne 11, 3) := by decide +kernel
theorem dX9_act_97 : decode cX9_act 97 = .ok (.aload_n 0, 1) := by decide +kernel
theorem dX9_act_98 : decode cX9_act 98 = .ok (.iload_n 3, 1) := by decide +kernel
theorem dX9_act_99 : decode cX9_act 99 = .ok (.invokevirtual 327, 3) := by decide +kernel
theorem dX9_act_102 : decode cX9_act 102 = .ok (.goto 21, 3) := by decide +kernel
theorem dX9_act_105 : decode cX9_act 105 = .ok (.iload_n 2, 1) := by decide +kernel
theorem dX9_act_106 : decode cX9_act 106 = .ok (.iconst 2, 1) := by decide +kernel
theorem dX9_act_107 : decode cX9_act 107 = .ok (.if_icmp .ne 11, 3) := by decide +kernel
theorem dX9_act_110 : decode cX9_act 110 = .ok (.aload_n 0, 1) := by decide +kernel
theorem dX9_act_111 : decode cX9_act 111 = .ok (.iload_n 3, 1) := by decide +kernel
theorem dX9_act_112 : decode cX9_act 112 = .ok (.invokevirtual 333, 3) := by decide +kernel
theorem dX9_act_115 : decode cX9_act 115 = .ok (.goto 8, 3) := by decide +kernel
theorem dX9_act_118 : decode cX9_act 118 = .ok (.aload_n 0, 1) := by decide +kernel
theorem dX9_act_119 : decode cX9_act 119 = .ok (.iload_n 3, 1) := by decide +kernel
theorem dX9_act_120 : decode cX9_act 120 = .ok (.invokevirtual 336, 3) := by decide +kernel
theorem dX9_act_123 : decode cX9_act 123 = .ok (.istore 4, 2) := by decide +kernel
theorem dX9_act_125 : decode cX9_act 125 = .ok (.aload_n 0, 1) := by decide +kernel
theorem dX9_act_126 : decode cX9_act 126 = .ok (.getfield 321, 3) := by decide +kernel
theorem dX9_act_129 : decode cX9_act 129 = .ok (.ifCond .eq 8, 3) := by decide +kernel
theorem dX9_act_132 : decode cX9_act 132 = .ok (.bipush (-15), 2) := by decide +kernel
theorem dX9_act_134 : decode cX9_act 134 = .ok (.goto 5, 3) := by decide +kernel
theorem dX9_act_137 : decode cX9_act 137 = .ok (.iload 4, 2) := by decide +kernel
theorem dX9_act_139 : decode cX9_act 139 = .ok (.ireturn, 1) := by decide +kernel
set_option maxRecDepth 20000 in
theorem ggX9_trace_X9_isIn : GoodIn wsX9_trace wsX9_isIn := goodIn_r _ [6] (by decide +kernel) (by decide +kernel)
set_option maxRecDepth 20000 in
theorem gX9_trace_X9_isIn : GoodIn wsX9_trace (va_wsS RX9 60 yX9_isIn wsX9_isIn) := goodIn_app (goodIn_of _ (by decide +kernel)) ggX9_trace_X9_isIn
theorem dX9_trace_0 : decode cX9_trace 0 = .ok (.iload_n 1, 1) := by decide +kernel
theorem dX9_trace_1 : decode cX9_trace 1 = .ok (.i2l, 1) := by decide +kernel
theorem dX9_trace_2 : decode cX9_trace 2 = .ok (.lconst 0, 1) := by decide +kernel
theorem dX9_trace_3 : decode cX9_trace 3 = .ok (.aload_n 0, 1) := by decide +kernel
theorem dX9_trace_4 : decode cX9_trace 4 = .ok (.getfield 294, 3) := by decide +kernel
theorem dX9_trace_7 : decode cX9_trace 7 = .ok (.iconst 1, 1) := by decide +kernel
theorem dX9_trace_8 : decode cX9_trace 8 = .ok (.isub, 1) := by decide +kernel
theorem dX9_trace_9 : decode cX9_trace 9 = .ok (.i2l, 1) := by decide +kernel
theorem dX9_trace_10 : decode cX9_trace 10 = .ok (.invokestatic 60, 3) := by decide +kernel
theorem dX9_trace_13 : decode cX9_trace 13 = .ok (.ifCond .eq 12, 3) := by decide +kernel
theorem dX9_trace_16 : decode cX9_trace 16 = .ok (.aload_n 0, 1) := by decide +kernel
theorem dX9_trace_17 : decode cX9_trace 17 = .ok (.getfield 52, 3) := by decide +kernel
theorem dX9_trace_20 : decode cX9_trace 20 = .ok (.iload_n 1, 1) := by decide +kernel
theorem dX9_trace_21 : decode cX9_trace 21 = .ok (.iaload, 1) := by decide +kernel
theorem dX9_trace_22 : decode cX9_trace 22 = .ok (.goto 5, 3) := by decide +kernel
theorem dX9_trace_25 : decode cX9_trace 25 = .ok (.bipush (-3), 2) := by decide +kernel
theorem dX9_trace_27 : decode cX9_trace 27 = .ok (.ireturn, 1) := by decide +kernel
set_option maxRecDepth 20000 in
theorem ggX9_many_X9_its : GoodIn wsX9_many wsX9_its := goodIn_r _ [9, 1, 17, 18, 19, 20, 21, 22, 23, 24, 25, 26, 27, 28, 29, 30, 31, 32, 33, 34, 35, 36, 37, 38, 39, 40, 41, 42, 43, 44, 45] (by decide +kernel) (by decide +kernel)
set_option maxRecDepth 20000 in
theorem gX9_many_X9_its : GoodIn wsX9_many (wsV RX9 172 RX9 yX9_its wsX9_its) := goodIn_app (goodIn_of _ (by decide +kernel)) ggX9_many_X9_its
set_option maxRecDepth 20000 in
theorem ggX9_many_X9_speakers : GoodIn wsX9_many wsX9_speakers := goodIn_r _ [13, 1, 5, 6, 7, 8, 9, 17, 18, 19, 20, 21, 22, 23, 24, 25, 26, 27, 28, 29, 30, 31, 32, 33, 34, 35, 36, 37, 38, 39, 40, 41, 42, 43, 44, 45] (by decide +kernel) (by decide +kernel)
set_option maxRecDepth 20000 in
theorem gX9_many_X9_speakers : GoodIn wsX9_many (wsV RX9 222 RX9 yX9_speakers wsX9_speakers) := goodIn_app (goodIn_of _ (by decide +kernel)) ggX9_many_X9_speakers
set_option maxRecDepth 20000 in
theorem ggX9_many_X9_size : GoodIn wsX9_many wsX9_size := goodIn_r _ [16] (by decide +kernel) (by decide +kernel)
set_option maxRecDepth 20000 in
theorem gX9_many_X9_size : GoodIn wsX9_many (va_wsS RX9 339 yX9_size wsX9_size) := goodIn_app (goodIn_of _ (by decide +kernel)) ggX9_many_X9_size
theorem dX9_many_0 : decode cX9_many 0 = .ok (.iconst 0, 1) := by decide +kernel
theorem dX9_many_1 : decode cX9_many 1 = .ok (.istore_n 2, 1) := by decide +kernel
theorem dX9_many_2 : decode cX9_many 2 = .ok (.iload_n 1, 1) := by decide +kernel
theorem dX9_many_3 : decode cX9_many 3 = .ok (.tableswitch 149 0 6 #[41, 48, 87, 95, 134, 139, 144], 41) := by decide +kernel
theorem dX9_many_44 : decode cX9_many 44 = .ok (.aload_n 0, 1) := by decide +kernel
theorem dX9_many_45 : decode cX9_many 45 = .ok (.getfield 7, 3) := by decide +kernel
theorem dX9_many_48 : decode cX9_many 48 = .ok (.iconst 0, 1) := by decide +kernel
theorem dX9_many_49 : decode cX9_many 49 = .ok (.iaload, 1) := by decide +kernel
theorem dX9_many_50 : decode cX9_many 50 = .ok (.ireturn, 1) := by decide +kernel
theorem dX9_many_51 : decode cX9_many 51 = .ok (.iconst 0, 1) := by decide +kernel
theorem dX9_many_52 : decode cX9_many 52 = .ok (.istore_n 3, 1) := by decide +kernel
theorem dX9_many_53 : decode cX9_many 53 = .ok (.iload_n 3, 1) := by decide +kernel
theorem dX9_many_54 : decode cX9_many 54 = .ok (.aload_n 0, 1) := by decide +kernel
theorem dX9_many_55 : decode cX9_many 55 = .ok (.getfield 7, 3) := by decide +kernel
theorem dX9_many_58 : decode cX9_many 58 = .ok (.iconst 0, 1) := by decide +kernel
theorem dX9_many_59 : decode cX9_many 59 = .ok (.iaload, 1) := by decide +kernel
theorem dX9_many_60 : decode cX9_many 60 = .ok (.if_icmp .ge 26, 3) := by decide +kernel
theorem dX9_many_63 : decode cX9_many 63 = .ok (.iload_n 2, 1) := by decide +kernel
theorem dX9_many_64 : decode cX9_many 64 = .ok (.aload_n 0, 1) := by decide +kernel
theorem dX9_many_65 : decode cX9_many 65 = .ok (.iload_n 3, 1) := by decide +kernel
theorem dX9_many_66 : decode cX9_many 66 = .ok (.iconst 4, 1) := by decide +kernel
theorem dX9_many_67 : decode cX9_many 67 = .ok (.invokevirtual 172, 3) := by decide +kernel
theorem dX9_many_70 : decode cX9_many 70 = .ok (.ifCond .le 7, 3) := by decide +kernel
theorem dX9_many_73 : decode cX9_many 73 = .ok (.iconst 1, 1) := by decide +kernel
theorem dX9_many_74 : decode cX9_many 74 = .ok (.goto 4, 3) := by decide +kernel
theorem dX9_many_77 : decode cX9_many 77 = .ok (.iconst 0, 1) := by decide +kernel
theorem dX9_many_78 : decode cX9_many 78 = .ok (.iadd, 1) := by decide +kernel
theorem dX9_many_79 : decode cX9_many 79 = .ok (.istore_n 2, 1) := by decide +kernel
theorem dX9_many_80 : decode cX9_many 80 = .ok (.iinc 3 1, 3) := by decide +kernel
theorem dX9_many_83 : decode cX9_many 83 = .ok (.goto (-30), 3) := by decide +kernel
theorem dX9_many_86 : decode cX9_many 86 = .ok (.iload_n 2, 1) := by decide +kernel
theorem dX9_many_87 : decode cX9_many 87 = .ok (.iconst 2, 1) := by decide +kernel
theorem dX9_many_88 : decode cX9_many 88 = .ok (.idiv, 1) := by decide +kernel
theorem dX9_many_89 : decode cX9_many 89 = .ok (.ireturn, 1) := by decide +kernel
theorem dX9_many_90 : decode cX9_many 90 = .ok (.aload_n 0, 1) := by decide +kernel
theorem dX9_many_91 : decode cX9_many 91 = .ok (.invokevirtual 222, 3) := by decide +kernel
theorem dX9_many_94 : decode cX9_many 94 = .ok (.invokestatic 339, 3) := by decide +kernel
theorem dX9_many_97 : decode cX9_many 97 = .ok (.ireturn, 1) := by decide +kernel
theorem dX9_many_98 : decode cX9_many 98 = .ok (.iconst 0, 1) := by decide +kernel
theorem dX9_many_99 : decode cX9_many 99 = .ok (.istore_n 3, 1) := by decide +kernel
theorem dX9_many_100 : decode cX9_many 100 = .ok (.iload_n 3, 1) := by decide +kernel
theorem dX9_many_101 : decode cX9_many 101 = .ok (.aload_n 0, 1) := by decide +kernel
theorem dX9_many_102 : decode cX9_many 102 = .ok (.getfield 7, 3) := by decide +kernel
theorem dX9_many_105 : decode cX9_many 105 = .ok (.iconst 0, 1) := by decide +kernel
theorem dX9_many_106 : decode cX9_many 106 = .ok (.iaload, 1) := by decide +kernel
theorem dX9_many_107 : decode cX9_many 107 = .ok (.if_icmp .ge 28, 3) := by decide +kernel
theorem dX9_many_110 : decode cX9_many 110 = .ok (.iload_n 2, 1) := by decide +kernel
theorem dX9_many_111 : decode cX9_many 111 = .ok (.aload_n 0, 1) := by decide +kernel
theorem dX9_many_112 : decode cX9_many 112 = .ok (.iload_n 3, 1) := by decide +kernel
theorem dX9_many_113 : decode cX9_many 113 = .ok (.iconst 1, 1) := by decide +kernel
theorem dX9_many_114 : decode cX9_many 114 = .ok (.invokevirtual 172, 3) := by decide +kernel
theorem dX9_many_117 : decode cX9_many 117 = .ok (.bipush 99, 2) := by decide +kernel
theorem dX9_many_119 : decode cX9_many 119 = .ok (.if_icmp .ne 7, 3) := by decide +kernel
theorem dX9_many_122 : decode cX9_many 122 = .ok (.iconst 1, 1) := by decide +kernel
theorem dX9_many_123 : decode cX9_many 123 = .ok (.goto 4, 3) := by decide +kernel
theorem dX9_many_126 : decode cX9_many 126 = .ok (.iconst 0, 1) := by decide +kernel
theorem dX9_many_127 : decode cX9_many 127 = .ok (.iadd, 1) := by decide +kernel
theorem dX9_many_128 : decode cX9_many 128 = .ok (.istore_n 2, 1) := by decide +kernel
theorem dX9_many_129 : decode cX9_many 129 = .ok (.iinc 3 1, 3) := by decide +kernel
theorem dX9_many_132 : decode cX9_many 132 = .ok (.goto (-32), 3) := by decide +kernel
theorem dX9_many_135 : decode cX9_many 135 = .ok (.iload_n 2, 1) := by decide +kernel
theorem dX9_many_136 : decode cX9_many 136 = .ok (.ireturn, 1) := by decide +kernel
theorem dX9_many_137 : decode cX9_many 137 = .ok (.aload_n 0, 1) := by decide +kernel
theorem dX9_many_138 : decode cX9_many 138 = .ok (.getfield 157, 3) := by decide +kernel
theorem dX9_many_141 : decode cX9_many 141 = .ok (.ireturn, 1) := by decide +kernel
theorem dX9_many_142 : decode cX9_many 142 = .ok (.aload_n 0, 1) := by decide +kernel
theorem dX9_many_143 : decode cX9_many 143 = .ok (.getfield 64, 3) := by decide +kernel
theorem dX9_many_146 : decode cX9_many 146 = .ok (.ireturn, 1) := by decide +kernel
theorem dX9_many_147 : decode cX9_many 147 = .ok (.aload_n 0, 1) := by decide +kernel
theorem dX9_many_148 : decode cX9_many 148 = .ok (.getfield 294, 3) := by decide +kernel
theorem dX9_many_151 : decode cX9_many 151 = .ok (.ireturn, 1) := by decide +kernel
theorem dX9_many_152 : decode cX9_many 152 = .ok (.iconst (-1), 1) := by decide +kernel
theorem dX9_many_153 : decode cX9_many 153 = .ok (.ireturn, 1) := by decide +kernel
theorem dX9_keep_0 : decode cX9_keep 0 = .ok (.iconst 0, 1) := by decide +kernel
theorem dX9_keep_1 : decode cX9_keep 1 = .ok (.istore_n 1, 1) := by decide +kernel
theorem dX9_keep_2 : decode cX9_keep 2 = .ok (.iload_n 1, 1) := by decide +kernel
theorem dX9_keep_3 : decode cX9_keep 3 = .ok (.bipush 57, 2) := by decide +kernel
theorem dX9_keep_5 : decode cX9_keep 5 = .ok (.if_icmp .ge 21, 3) := by decide +kernel
theorem dX9_keep_8 : decode cX9_keep 8 = .ok (.aload_n 0, 1) := by decide +kernel
theorem dX9_keep_9 : decode cX9_keep 9 = .ok (.getfield 13, 3) := by decide +kernel
theorem dX9_keep_12 : decode cX9_keep 12 = .ok (.iload_n 1, 1) := by decide +kernel
theorem dX9_keep_13 : decode cX9_keep 13 = .ok (.aload_n 0, 1) := by decide +kernel
theorem dX9_keep_14 : decode cX9_keep 14 = .ok (.getfield 7, 3) := by decide +kernel
theorem dX9_keep_17 : decode cX9_keep 17 = .ok (.iload_n 1, 1) := by decide +kernel
theorem dX9_keep_18 : decode cX9_keep 18 = .ok (.iaload, 1) := by decide +kernel
theorem dX9_keep_19 : decode cX9_keep 19 = .ok (.iastore, 1) := by decide +kernel
theorem dX9_keep_20 : decode cX9_keep 20 = .ok (.iinc 1 1, 3) := by decide +kernel
theorem dX9_keep_23 : decode cX9_keep 23 = .ok (.goto (-21), 3) := by decide +kernel
theorem dX9_keep_26 : decode cX9_keep 26 = .ok (.aload_n 0, 1) := by decide +kernel
theorem dX9_keep_27 : decode cX9_keep 27 = .ok (.iconst 1, 1) := by decide +kernel
theorem dX9_keep_28 : decode cX9_keep 28 = .ok (.putfield 342, 3) := by decide +kernel
theorem dX9_keep_31 : decode cX9_keep 31 = .ok (.iconst 1, 1) := by decide +kernel
theorem dX9_keep_32 : decode cX9_keep 32 = .ok (.ireturn, 1) := by decide +kernel
theorem dX9_again_0 : decode cX9_again 0 = .ok (.aload_n 0, 1) := by decide +kernel
theorem dX9_again_1 : decode cX9_again 1 = .ok (.getfield 342, 3) := by decide +kernel
theorem dX9_again_4 : decode cX9_again 4 = .ok (.ifCond .ne 6, 3) := by decide +kernel
theorem dX9_again_7 : decode cX9_again 7 = .ok (.bipush (-3), 2) := by decide +kernel
theorem dX9_again_9 : decode cX9_again 9 = .ok (.ireturn, 1) := by decide +kernel
theorem dX9_again_10 : decode cX9_again 10 = .ok (.iconst 0, 1) := by decide +kernel
theorem dX9_again_11 : decode cX9_again 11 = .ok (.istore_n 1, 1) := by decide +kernel
theorem dX9_again_12 : decode cX9_again 12 = .ok (.iload_n 1, 1) := by decide +kernel
theorem dX9_again_13 : decode cX9_again 13 = .ok (.bipush 57, 2) := by decide +kernel
theorem dX9_again_15 : decode cX9_again 15 = .ok (.if_icmp .ge 21, 3) := by decide +kernel
theorem dX9_again_18 : decode cX9_again 18 = .ok (.aload_n 0, 1) := by decide +kernel
theorem dX9_again_19 : decode cX9_again 19 = .ok (.getfield 7, 3) := by decide +kernel
theorem dX9_again_22 : decode cX9_again 22 = .ok (.iload_n 1, 1) := by decide +kernel
theorem dX9_again_23 : decode cX9_again 23 = .ok (.aload_n 0, 1) := by decide +kernel
theorem dX9_again_24 : decode cX9_again 24 = .ok (.getfield 13, 3) := by decide +kernel
theorem dX9_again_27 : decode cX9_again 27 = .ok (.iload_n 1, 1) := by decide +kernel
theorem dX9_again_28 : decode cX9_again 28 = .ok (.iaload, 1) := by decide +kernel
theorem dX9_again_29 : decode cX9_again 29 = .ok (.iastore, 1) := by decide +kernel
theorem dX9_again_30 : decode cX9_again 30 = .ok (.iinc 1 1, 3) := by decide +kernel
theorem dX9_again_33 : decode cX9_again 33 = .ok (.goto (-21), 3) := by decide +kernel
theorem dX9_again_36 : decode cX9_again 36 = .ok (.aload_n 0, 1) := by decide +kernel
theorem dX9_again_37 : decode cX9_again 37 = .ok (.getfield 7, 3) := by decide +kernel
theorem dX9_again_40 : decode cX9_again 40 = .ok (.iconst 0, 1) := by decide +kernel
theorem dX9_again_41 : decode cX9_again 41 = .ok (.iaload, 1) := by decide +kernel
theorem dX9_again_42 : decode cX9_again 42 = .ok (.ireturn, 1) := by decide +kernel
