theorem dX9_change_37 : decode cX9_change 37 = .ok (.goto 15, 3) := by decide +kernel
theorem dX9_change_40 : decode cX9_change 40 = .ok (.aload_n 0, 1) := by decide +kernel
theorem dX9_change_41 : decode cX9_change 41 = .ok (.getfield 10, 3) := by decide +kernel
theorem dX9_change_44 : decode cX9_change 44 = .ok (.getfield 178, 3) := by decide +kernel
theorem dX9_change_47 : decode cX9_change 47 = .ok (.getfield 195, 3) := by decide +kernel
theorem dX9_change_50 : decode cX9_change 50 = .ok (.iload_n 1, 1) := by decide +kernel
theorem dX9_change_51 : decode cX9_change 51 = .ok (.iaload, 1) := by decide +kernel
theorem dX9_change_52 : decode cX9_change 52 = .ok (.ireturn, 1) := by decide +kernel
set_option maxRecDepth 20000 in
theorem ggX9_seen_X9_isUpTo : GoodIn wsX9_seen wsX9_isUpTo := goodIn_r _ [7] (by decide +kernel) (by decide +kernel)
set_option maxRecDepth 20000 in
theorem gX9_seen_X9_isUpTo : GoodIn wsX9_seen (va_wsS RX9 54 yX9_isUpTo wsX9_isUpTo) := goodIn_app (goodIn_of _ (by decide +kernel)) ggX9_seen_X9_isUpTo
set_option maxRecDepth 20000 in
theorem ggX9_seen_X7_add : GoodIn wsX9_seen wsX7_add := goodIn_r _ [12, 13, 14, 15, 28, 29, 30] (by decide +kernel) (by decide +kernel)
set_option maxRecDepth 20000 in
theorem gX9_seen_X7_add : GoodIn wsX9_seen (wsV RX9 202 RX7 yX7_add wsX7_add) := goodIn_app (goodIn_of _ (by decide +kernel)) ggX9_seen_X7_add
theorem dX9_seen_0 : decode cX9_seen 0 = .ok (.iload_n 1, 1) := by decide +kernel
theorem dX9_seen_1 : decode cX9_seen 1 = .ok (.bipush 60, 2) := by decide +kernel
theorem dX9_seen_3 : decode cX9_seen 3 = .ok (.invokestatic 54, 3) := by decide +kernel
theorem dX9_seen_6 : decode cX9_seen 6 = .ok (.ifCond .eq 12, 3) := by decide +kernel
theorem dX9_seen_9 : decode cX9_seen 9 = .ok (.iload_n 2, 1) := by decide +kernel
theorem dX9_seen_10 : decode cX9_seen 10 = .ok (.bipush 99, 2) := by decide +kernel
theorem dX9_seen_12 : decode cX9_seen 12 = .ok (.invokestatic 54, 3) := by decide +kernel
theorem dX9_seen_15 : decode cX9_seen 15 = .ok (.ifCond .ne 6, 3) := by decide +kernel
theorem dX9_seen_18 : decode cX9_seen 18 = .ok (.bipush (-2), 2) := by decide +kernel
theorem dX9_seen_20 : decode cX9_seen 20 = .ok (.ireturn, 1) := by decide +kernel
theorem dX9_seen_21 : decode cX9_seen 21 = .ok (.aload_n 0, 1) := by decide +kernel
theorem dX9_seen_22 : decode cX9_seen 22 = .ok (.getfield 10, 3) := by decide +kernel
theorem dX9_seen_25 : decode cX9_seen 25 = .ok (.getfield 198, 3) := by decide +kernel
theorem dX9_seen_28 : decode cX9_seen 28 = .ok (.iload_n 1, 1) := by decide +kernel
theorem dX9_seen_29 : decode cX9_seen 29 = .ok (.iload_n 2, 1) := by decide +kernel
theorem dX9_seen_30 : decode cX9_seen 30 = .ok (.invokevirtual 202, 3) := by decide +kernel
theorem dX9_seen_33 : decode cX9_seen 33 = .ok (.ifCond .eq 16, 3) := by decide +kernel
theorem dX9_seen_36 : decode cX9_seen 36 = .ok (.aload_n 0, 1) := by decide +kernel
theorem dX9_seen_37 : decode cX9_seen 37 = .ok (.getfield 10, 3) := by decide +kernel
theorem dX9_seen_40 : decode cX9_seen 40 = .ok (.getfield 198, 3) := by decide +kernel
theorem dX9_seen_43 : decode cX9_seen 43 = .ok (.getfield 206, 3) := by decide +kernel
theorem dX9_seen_46 : decode cX9_seen 46 = .ok (.goto 5, 3) := by decide +kernel
theorem dX9_seen_49 : decode cX9_seen 49 = .ok (.bipush (-4), 2) := by decide +kernel
theorem dX9_seen_51 : decode cX9_seen 51 = .ok (.ireturn, 1) := by decide +kernel
theorem dX9_forget_0 : decode cX9_forget 0 = .ok (.aload_n 0, 1) := by decide +kernel
theorem dX9_forget_1 : decode cX9_forget 1 = .ok (.getfield 10, 3) := by decide +kernel
theorem dX9_forget_4 : decode cX9_forget 4 = .ok (.getfield 198, 3) := by decide +kernel
theorem dX9_forget_7 : decode cX9_forget 7 = .ok (.getfield 206, 3) := by decide +kernel
theorem dX9_forget_10 : decode cX9_forget 10 = .ok (.istore_n 1, 1) := by decide +kernel
theorem dX9_forget_11 : decode cX9_forget 11 = .ok (.aload_n 0, 1) := by decide +kernel
theorem dX9_forget_12 : decode cX9_forget 12 = .ok (.getfield 10, 3) := by decide +kernel
theorem dX9_forget_15 : decode cX9_forget 15 = .ok (.getfield 198, 3) := by decide +kernel
theorem dX9_forget_18 : decode cX9_forget 18 = .ok (.iconst 0, 1) := by decide +kernel
theorem dX9_forget_19 : decode cX9_forget 19 = .ok (.putfield 206, 3) := by decide +kernel
theorem dX9_forget_22 : decode cX9_forget 22 = .ok (.iload_n 1, 1) := by decide +kernel
theorem dX9_forget_23 : decode cX9_forget 23 = .ok (.ireturn, 1) := by decide +kernel
set_option maxRecDepth 20000 in
theorem ggX9_who_X5_find : GoodIn wsX9_who wsX5_find := goodIn_r _ [9, 10, 11, 12, 13, 14, 15, 16, 17, 18, 19, 20, 21, 8, 22, 23, 24, 25, 26, 43, 44, 45, 46, 47, 48] (by decide +kernel) (by decide +kernel)
set_option maxRecDepth 20000 in
theorem gX9_who_X5_find : GoodIn wsX9_who (wsV RX9 207 RX5 yX5_find wsX5_find) := goodIn_app (goodIn_of _ (by decide +kernel)) ggX9_who_X5_find
set_option maxRecDepth 20000 in
theorem ggX9_who_X5_code : GoodIn wsX9_who wsX5_code := goodIn_r _ [30, 10, 11, 43, 44, 45] (by decide +kernel) (by decide +kernel)
set_option maxRecDepth 20000 in
theorem gX9_who_X5_code : GoodIn wsX9_who (wsV RX9 212 RX5 yX5_code wsX5_code) := goodIn_app (goodIn_of _ (by decide +kernel)) ggX9_who_X5_code
theorem dX9_who_0 : decode cX9_who 0 = .ok (.aload_n 0, 1) := by decide +kernel
theorem dX9_who_1 : decode cX9_who 1 = .ok (.getfield 39, 3) := by decide +kernel
theorem dX9_who_4 : decode cX9_who 4 = .ok (.aload_n 0, 1) := by decide +kernel
theorem dX9_who_5 : decode cX9_who 5 = .ok (.getfield 10, 3) := by decide +kernel
theorem dX9_who_8 : decode cX9_who 8 = .ok (.getfield 198, 3) := by decide +kernel
theorem dX9_who_11 : decode cX9_who 11 = .ok (.invokevirtual 207, 3) := by decide +kernel
theorem dX9_who_14 : decode cX9_who 14 = .ok (.iload_n 1, 1) := by decide +kernel
theorem dX9_who_15 : decode cX9_who 15 = .ok (.iconst (-1), 1) := by decide +kernel
theorem dX9_who_16 : decode cX9_who 16 = .ok (.if_icmp .ne 11, 3) := by decide +kernel
theorem dX9_who_19 : decode cX9_who 19 = .ok (.aload_n 0, 1) := by decide +kernel
theorem dX9_who_20 : decode cX9_who 20 = .ok (.getfield 39, 3) := by decide +kernel
theorem dX9_who_23 : decode cX9_who 23 = .ok (.getfield 211, 3) := by decide +kernel
theorem dX9_who_26 : decode cX9_who 26 = .ok (.ireturn, 1) := by decide +kernel
theorem dX9_who_27 : decode cX9_who 27 = .ok (.aload_n 0, 1) := by decide +kernel
theorem dX9_who_28 : decode cX9_who 28 = .ok (.getfield 39, 3) := by decide +kernel
theorem dX9_who_31 : decode cX9_who 31 = .ok (.iload_n 1, 1) := by decide +kernel
theorem dX9_who_32 : decode cX9_who 32 = .ok (.invokevirtual 212, 3) := by decide +kernel
theorem dX9_who_35 : decode cX9_who 35 = .ok (.ireturn, 1) := by decide +kernel
set_option maxRecDepth 20000 in
theorem ggX9_ask_X9_isUpTo : GoodIn wsX9_ask wsX9_isUpTo := goodIn_r _ [8] (by decide +kernel) (by decide +kernel)
set_option maxRecDepth 20000 in
theorem gX9_ask_X9_isUpTo : GoodIn wsX9_ask (va_wsS RX9 54 yX9_isUpTo wsX9_isUpTo) := goodIn_app (goodIn_of _ (by decide +kernel)) ggX9_ask_X9_isUpTo
set_option maxRecDepth 20000 in
theorem ggX9_ask_X5_find : GoodIn wsX9_ask wsX5_find := goodIn_r _ [13, 14, 15, 16, 17, 18, 19, 20, 21, 22, 23, 24, 25, 12, 26, 27, 28, 29, 30, 49, 50, 51, 52, 53, 54] (by decide +kernel) (by decide +kernel)
set_option maxRecDepth 20000 in
theorem gX9_ask_X5_find : GoodIn wsX9_ask (wsV RX9 207 RX5 yX5_find wsX5_find) := goodIn_app (goodIn_of _ (by decide +kernel)) ggX9_ask_X5_find
set_option maxRecDepth 20000 in
theorem ggX9_ask_X5_leftAtMost : GoodIn wsX9_ask wsX5_leftAtMost := goodIn_r _ [34, 35, 14, 15, 27, 28, 29, 30, 36, 25, 12, 26, 49, 50, 51] (by decide +kernel) (by decide +kernel)
set_option maxRecDepth 20000 in
theorem gX9_ask_X5_leftAtMost : GoodIn wsX9_ask (wsV RX9 215 RX5 yX5_leftAtMost wsX5_leftAtMost) := goodIn_app (goodIn_of _ (by decide +kernel)) ggX9_ask_X5_leftAtMost
theorem dX9_ask_0 : decode cX9_ask 0 = .ok (.iload_n 1, 1) := by decide +kernel
theorem dX9_ask_1 : decode cX9_ask 1 = .ok (.iconst 1, 1) := by decide +kernel
theorem dX9_ask_2 : decode cX9_ask 2 = .ok (.invokestatic 54, 3) := by decide +kernel
theorem dX9_ask_5 : decode cX9_ask 5 = .ok (.ifCond .ne 6, 3) := by decide +kernel
theorem dX9_ask_8 : decode cX9_ask 8 = .ok (.bipush (-2), 2) := by decide +kernel
theorem dX9_ask_10 : decode cX9_ask 10 = .ok (.ireturn, 1) := by decide +kernel
theorem dX9_ask_11 : decode cX9_ask 11 = .ok (.aload_n 0, 1) := by decide +kernel
theorem dX9_ask_12 : decode cX9_ask 12 = .ok (.getfield 39, 3) := by decide +kernel
theorem dX9_ask_15 : decode cX9_ask 15 = .ok (.aload_n 0, 1) := by decide +kernel
theorem dX9_ask_16 : decode cX9_ask 16 = .ok (.getfield 10, 3) := by decide +kernel
theorem dX9_ask_19 : decode cX9_ask 19 = .ok (.getfield 198, 3) := by decide +kernel
theorem dX9_ask_22 : decode cX9_ask 22 = .ok (.invokevirtual 207, 3) := by decide +kernel
theorem dX9_ask_25 : decode cX9_ask 25 = .ok (.aload_n 0, 1) := by decide +kernel
theorem dX9_ask_26 : decode cX9_ask 26 = .ok (.getfield 39, 3) := by decide +kernel
theorem dX9_ask_29 : decode cX9_ask 29 = .ok (.getfield 211, 3) := by decide +kernel
theorem dX9_ask_32 : decode cX9_ask 32 = .ok (.ifCond .ne 6, 3) := by decide +kernel
theorem dX9_ask_35 : decode cX9_ask 35 = .ok (.bipush (-6), 2) := by decide +kernel
theorem dX9_ask_37 : decode cX9_ask 37 = .ok (.ireturn, 1) := by decide +kernel
theorem dX9_ask_38 : decode cX9_ask 38 = .ok (.iconst 0, 1) := by decide +kernel
theorem dX9_ask_39 : decode cX9_ask 39 = .ok (.istore_n 2, 1) := by decide +kernel
theorem dX9_ask_40 : decode cX9_ask 40 = .ok (.aload_n 0, 1) := by decide +kernel
theorem dX9_ask_41 : decode cX9_ask 41 = .ok (.getfield 39, 3) := by decide +kernel
theorem dX9_ask_44 : decode cX9_ask 44 = .ok (.iconst 0, 1) := by decide +kernel
theorem dX9_ask_45 : decode cX9_ask 45 = .ok (.invokevirtual 215, 3) := by decide +kernel
theorem dX9_ask_48 : decode cX9_ask 48 = .ok (.istore_n 3, 1) := by decide +kernel
theorem dX9_ask_49 : decode cX9_ask 49 = .ok (.iconst 1, 1) := by decide +kernel
theorem dX9_ask_50 : decode cX9_ask 50 = .ok (.istore 4, 2) := by decide +kernel
theorem dX9_ask_52 : decode cX9_ask 52 = .ok (.iload 4, 2) := by decide +kernel
theorem dX9_ask_54 : decode cX9_ask 54 = .ok (.bipush 60, 2) := by decide +kernel
theorem dX9_ask_56 : decode cX9_ask 56 = .ok (.if_icmp .gt 32, 3) := by decide +kernel
theorem dX9_ask_59 : decode cX9_ask 59 = .ok (.aload_n 0, 1) := by decide +kernel
theorem dX9_ask_60 : decode cX9_ask 60 = .ok (.getfield 39, 3) := by decide +kernel
theorem dX9_ask_63 : decode cX9_ask 63 = .ok (.iload 4, 2) := by decide +kernel
theorem dX9_ask_65 : decode cX9_ask 65 = .ok (.invokevirtual 215, 3) := by decide +kernel
theorem dX9_ask_68 : decode cX9_ask 68 = .ok (.istore 5, 2) := by decide +kernel
theorem dX9_ask_70 : decode cX9_ask 70 = .ok (.iload 5, 2) := by decide +kernel
theorem dX9_ask_72 : decode cX9_ask 72 = .ok (.iload_n 3, 1) := by decide +kernel
theorem dX9_ask_73 : decode cX9_ask 73 = .ok (.if_icmp .ge 9, 3) := by decide +kernel
theorem dX9_ask_76 : decode cX9_ask 76 = .ok (.iload 5, 2) := by decide +kernel
theorem dX9_ask_78 : decode cX9_ask 78 = .ok (.istore_n 3, 1) := by decide +kernel
theorem dX9_ask_79 : decode cX9_ask 79 = .ok (.iload 4, 2) := by decide +kernel
theorem dX9_ask_81 : decode cX9_ask 81 = .ok (.istore_n 2, 1) := by decide +kernel
theorem dX9_ask_82 : decode cX9_ask 82 = .ok (.iinc 4 1, 3) := by decide +kernel
theorem dX9_ask_85 : decode cX9_ask 85 = .ok (.goto (-33), 3) := by decide +kernel
theorem dX9_ask_88 : decode cX9_ask 88 = .ok (.iload_n 1, 1) := by decide +kernel
theorem dX9_ask_89 : decode cX9_ask 89 = .ok (.ifCond .ne 7, 3) := by decide +kernel
theorem dX9_ask_92 : decode cX9_ask 92 = .ok (.iload_n 2, 1) := by decide +kernel
theorem dX9_ask_93 : decode cX9_ask 93 = .ok (.goto 4, 3) := by decide +kernel
theorem dX9_ask_96 : decode cX9_ask 96 = .ok (.iload_n 3, 1) := by decide +kernel
theorem dX9_ask_97 : decode cX9_ask 97 = .ok (.ireturn, 1) := by decide +kernel
set_option maxRecDepth 20000 in
theorem ggX9_thumb_X9_isUpTo : GoodIn wsX9_thumb wsX9_isUpTo := goodIn_r _ [7] (by decide +kernel) (by decide +kernel)
set_option maxRecDepth 20000 in
theorem gX9_thumb_X9_isUpTo : GoodIn wsX9_thumb (va_wsS RX9 54 yX9_isUpTo wsX9_isUpTo) := goodIn_app (goodIn_of _ (by decide +kernel)) ggX9_thumb_X9_isUpTo
set_option maxRecDepth 20000 in
theorem ggX9_thumb_X8_firstTaken : GoodIn wsX9_thumb wsX8_firstTaken := goodIn_r _ [12, 13, 14, 15, 16, 17, 18, 19, 20, 21, 22, 23, 24, 25, 26, 27, 28, 29, 30, 31, 32, 33, 11, 34, 47, 48, 49, 50, 51, 52, 53, 54, 55, 56, 57, 58, 59] (by decide +kernel) (by decide +kernel)
set_option maxRecDepth 20000 in
theorem gX9_thumb_X8_firstTaken : GoodIn wsX9_thumb (wsV RX9 218 RX8 yX8_firstTaken wsX8_firstTaken) := goodIn_app (goodIn_of _ (by decide +kernel)) ggX9_thumb_X8_firstTaken
theorem dX9_thumb_0 : decode cX9_thumb 0 = .ok (.iload_n 1, 1) := by decide +kernel
theorem dX9_thumb_1 : decode cX9_thumb 1 = .ok (.iconst 1, 1) := by decide +kernel
theorem dX9_thumb_2 : decode cX9_thumb 2 = .ok (.invokestatic 54, 3) := by decide +kernel
theorem dX9_thumb_5 : decode cX9_thumb 5 = .ok (.ifCond .ne 6, 3) := by decide +kernel
theorem dX9_thumb_8 : decode cX9_thumb 8 = .ok (.bipush (-2), 2) := by decide +kernel
theorem dX9_thumb_10 : decode cX9_thumb 10 = .ok (.ireturn, 1) := by decide +kernel
theorem dX9_thumb_11 : decode cX9_thumb 11 = .ok (.aload_n 0, 1) := by decide +kernel
theorem dX9_thumb_12 : decode cX9_thumb 12 = .ok (.getfield 46, 3) := by decide +kernel
theorem dX9_thumb_15 : decode cX9_thumb 15 = .ok (.aload_n 0, 1) := by decide +kernel
theorem dX9_thumb_16 : decode cX9_thumb 16 = .ok (.getfield 10, 3) := by decide +kernel
theorem dX9_thumb_19 : decode cX9_thumb 19 = .ok (.getfield 58, 3) := by decide +kernel
theorem dX9_thumb_22 : decode cX9_thumb 22 = .ok (.invokevirtual 218, 3) := by decide +kernel
theorem dX9_thumb_25 : decode cX9_thumb 25 = .ok (.istore_n 2, 1) := by decide +kernel
theorem dX9_thumb_26 : decode cX9_thumb 26 = .ok (.iload_n 1, 1) := by decide +kernel
theorem dX9_thumb_27 : decode cX9_thumb 27 = .ok (.iconst 1, 1) := by decide +kernel
theorem dX9_thumb_28 : decode cX9_thumb 28 = .ok (.if_icmp .ne 5, 3) := by decide +kernel
theorem dX9_thumb_31 : decode cX9_thumb 31 = .ok (.iload_n 2, 1) := by decide +kernel
theorem dX9_thumb_32 : decode cX9_thumb 32 = .ok (.ireturn, 1) := by decide +kernel
theorem dX9_thumb_33 : decode cX9_thumb 33 = .ok (.iload_n 2, 1) := by decide +kernel
theorem dX9_thumb_34 : decode cX9_thumb 34 = .ok (.bipush (-6), 2) := by decide +kernel
theorem dX9_thumb_36 : decode cX9_thumb 36 = .ok (.if_icmp .ne 7, 3) := by decide +kernel
theorem dX9_thumb_39 : decode cX9_thumb 39 = .ok (.iconst 0, 1) := by decide +kernel
theorem dX9_thumb_40 : decode cX9_thumb 40 = .ok (.goto 4, 3) := by decide +kernel
theorem dX9_thumb_43 : decode cX9_thumb 43 = .ok (.iconst 1, 1) := by decide +kernel
theorem dX9_thumb_44 : decode cX9_thumb 44 = .ok (.ireturn, 1) := by decide +kernel
set_option maxRecDepth 20000 in
theorem ggX9_count_X9_isUpTo : GoodIn wsX9_count wsX9_isUpTo := goodIn_r _ [6] (by decide +kernel) (by decide +kernel)
set_option maxRecDepth 20000 in
theorem gX9_count_X9_isUpTo : GoodIn wsX9_count (va_wsS RX9 54 yX9_isUpTo wsX9_isUpTo) := goodIn_app (goodIn_of _ (by decide +kernel)) ggX9_count_X9_isUpTo
set_option maxRecDepth 20000 in
theorem ggX9_count_X0_atLeast : GoodIn wsX9_count wsX0_atLeast := goodIn_r _ [10, 11, 12, 9, 13, 14, 15, 16] (by decide +kernel) (by decide +kernel)
set_option maxRecDepth 20000 in
theorem gX9_count_X0_atLeast : GoodIn wsX9_count (va_wsS RX9 224 yX0_atLeast wsX0_atLeast) := goodIn_app (goodIn_of _ (by decide +kernel)) ggX9_count_X0_atLeast
set_option maxRecDepth 20000 in
theorem ggX9_count_X0_power : GoodIn wsX9_count wsX0_power := goodIn_r _ [16] (by decide +kernel) (by decide +kernel)
set_option maxRecDepth 20000 in
theorem gX9_count_X0_power : GoodIn wsX9_count (va_wsS RX9 232 yX0_power wsX0_power) := goodIn_app (goodIn_of _ (by decide +kernel)) ggX9_count_X0_power
set_option maxRecDepth 20000 in
theorem ggX9_count_X0_lowest : GoodIn wsX9_count wsX0_lowest := goodIn_r _ [20, 21, 22, 23, 9, 24] (by decide +kernel) (by decide +kernel)
set_option maxRecDepth 20000 in
theorem gX9_count_X0_lowest : GoodIn wsX9_count (va_wsS RX9 236 yX0_lowest wsX0_lowest) := goodIn_app (goodIn_of _ (by decide +kernel)) ggX9_count_X0_lowest
theorem dX9_count_0 : decode cX9_count 0 = .ok (.iload 4, 2) := by decide +kernel
theorem dX9_count_2 : decode cX9_count 2 = .ok (.iconst 1, 1) := by decide +kernel
theorem dX9_count_3 : decode cX9_count 3 = .ok (.invokestatic 54, 3) := by decide +kernel
theorem dX9_count_6 : decode cX9_count 6 = .ok (.ifCond .eq 30, 3) := by decide +kernel
theorem dX9_count_9 : decode cX9_count 9 = .ok (.iload 5, 2) := by decide +kernel
theorem dX9_count_11 : decode cX9_count 11 = .ok (.iconst 1, 1) := by decide +kernel
theorem dX9_count_12 : decode cX9_count 12 = .ok (.invokestatic 54, 3) := by decide +kernel
theorem dX9_count_15 : decode cX9_count 15 = .ok (.ifCond .eq 21, 3) := by decide +kernel
theorem dX9_count_18 : decode cX9_count 18 = .ok (.iload_n 2, 1) := by decide +kernel
theorem dX9_count_19 : decode cX9_count 19 = .ok (.bipush 10, 2) := by decide +kernel
theorem dX9_count_21 : decode cX9_count 21 = .ok (.invokestatic 54, 3) := by decide +kernel
theorem dX9_count_24 : decode cX9_count 24 = .ok (.ifCond .eq 12, 3) := by decide +kernel
theorem dX9_count_27 : decode cX9_count 27 = .ok (.iload_n 3, 1) := by decide +kernel
theorem dX9_count_28 : decode cX9_count 28 = .ok (.bipush 17, 2) := by decide +kernel
theorem dX9_count_30 : decode cX9_count 30 = .ok (.invokestatic 54, 3) := by decide +kernel
theorem dX9_count_33 : decode cX9_count 33 = .ok (.ifCond .ne 7, 3) := by decide +kernel
theorem dX9_count_36 : decode cX9_count 36 = .ok (.ldc2_w 222, 3) := by decide +kernel
theorem dX9_count_39 : decode cX9_count 39 = .ok (.lreturn, 1) := by decide +kernel
theorem dX9_count_40 : decode cX9_count 40 = .ok (.iload_n 1, 1) := by decide +kernel
theorem dX9_count_41 : decode cX9_count 41 = .ok (.iload 4, 2) := by decide +kernel
theorem dX9_count_43 : decode cX9_count 43 = .ok (.ifCond .ne 8, 3) := by decide +kernel
theorem dX9_count_46 : decode cX9_count 46 = .ok (.bipush 17, 2) := by decide +kernel
theorem dX9_count_48 : decode cX9_count 48 = .ok (.goto 5, 3) := by decide +kernel
theorem dX9_count_51 : decode cX9_count 51 = .ok (.bipush 8, 2) := by decide +kernel
theorem dX9_count_53 : decode cX9_count 53 = .ok (.invokestatic 54, 3) := by decide +kernel
theorem dX9_count_56 : decode cX9_count 56 = .ok (.ifCond .ne 7, 3) := by decide +kernel
theorem dX9_count_59 : decode cX9_count 59 = .ok (.ldc2_w 222, 3) := by decide +kernel
theorem dX9_count_62 : decode cX9_count 62 = .ok (.lreturn, 1) := by decide +kernel
theorem dX9_count_63 : decode cX9_count 63 = .ok (.iload 4, 2) := by decide +kernel
theorem dX9_count_65 : decode cX9_count 65 = .ok (.ifCond .ne 22, 3) := by decide +kernel
theorem dX9_count_68 : decode cX9_count 68 = .ok (.iload_n 1, 1) := by decide +kernel
theorem dX9_count_69 : decode cX9_count 69 = .ok (.iload_n 2, 1) := by decide +kernel
theorem dX9_count_70 : decode cX9_count 70 = .ok (.iload_n 3, 1) := by decide +kernel
theorem dX9_count_71 : decode cX9_count 71 = .ok (.invokestatic 224, 3) := by decide +kernel
theorem dX9_count_74 : decode cX9_count 74 = .ok (.ldc2_w 230, 3) := by decide +kernel
theorem dX9_count_77 : decode cX9_count 77 = .ok (.iload_n 1, 1) := by decide +kernel
theorem dX9_count_78 : decode cX9_count 78 = .ok (.invokestatic 232, 3) := by decide +kernel
theorem dX9_count_81 : decode cX9_count 81 = .ok (.iload 5, 2) := by decide +kernel
theorem dX9_count_83 : decode cX9_count 83 = .ok (.invokestatic 236, 3) := by decide +kernel
theorem dX9_count_86 : decode cX9_count 86 = .ok (.lreturn, 1) := by decide +kernel
theorem dX9_count_87 : decode cX9_count 87 = .ok (.iload_n 2, 1) := by decide +kernel
theorem dX9_count_88 : decode cX9_count 88 = .ok (.i2l, 1) := by decide +kernel
theorem dX9_count_89 : decode cX9_count 89 = .ok (.iconst 2, 1) := by decide +kernel
theorem dX9_count_90 : decode cX9_count 90 = .ok (.iload_n 1, 1) := by decide +kernel
theorem dX9_count_91 : decode cX9_count 91 = .ok (.imul, 1) := by decide +kernel
theorem dX9_count_92 : decode cX9_count 92 = .ok (.invokestatic 232, 3) := by decide +kernel
theorem dX9_count_95 : decode cX9_count 95 = .ok (.ldc2_w 230, 3) := by decide +kernel
theorem dX9_count_98 : decode cX9_count 98 = .ok (.iconst 2, 1) := by decide +kernel
theorem dX9_count_99 : decode cX9_count 99 = .ok (.iload_n 1, 1) := by decide +kernel
theorem dX9_count_100 : decode cX9_count 100 = .ok (.imul, 1) := by decide +kernel
theorem dX9_count_101 : decode cX9_count 101 = .ok (.invokestatic 232, 3) := by decide +kernel
theorem dX9_count_104 : decode cX9_count 104 = .ok (.iload 5, 2) := by decide +kernel
theorem dX9_count_106 : decode cX9_count 106 = .ok (.invokestatic 236, 3) := by decide +kernel
theorem dX9_count_109 : decode cX9_count 109 = .ok (.lreturn, 1) := by decide +kernel
set_option maxRecDepth 20000 in
theorem ggX9_year_X9_isUpTo : GoodIn wsX9_year wsX9_isUpTo := goodIn_r _ [9] (by decide +kernel) (by decide +kernel)
set_option maxRecDepth 20000 in
theorem gX9_year_X9_isUpTo : GoodIn wsX9_year (va_wsS RX9 54 yX9_isUpTo wsX9_isUpTo) := goodIn_app (goodIn_of _ (by decide +kernel)) ggX9_year_X9_isUpTo
set_option maxRecDepth 20000 in
theorem ggX9_year_X4_draw : GoodIn wsX9_year wsX4_draw := goodIn_r _ [14, 15, 16, 17, 18, 19, 20, 21, 22, 23, 24, 25, 26, 27, 28, 29, 30, 31, 32, 33, 34, 35, 36, 37, 38, 13, 39, 40, 41, 42, 43, 44, 45, 46, 47, 48, 49, 50, 51, 52, 53, 54, 55, 56, 57, 58, 59, 60, 61, 62, 63, 64, 65, 66, 67, 68, 69, 70, 71, 72, 73, 74, 75, 76, 77, 78, 106, 107, 108, 109, 110, 111, 112, 113, 114, 115, 116, 117, 118, 119, 120, 121, 122, 123] (by decide +kernel) (by decide +kernel)
set_option maxRecDepth 20000 in
theorem gX9_year_X4_draw : GoodIn wsX9_year (wsV RX9 240 RX4 yX4_draw wsX4_draw) := goodIn_app (goodIn_of _ (by decide +kernel)) ggX9_year_X4_draw
set_option maxRecDepth 20000 in
theorem ggX9_year_X6_snowBits : GoodIn wsX9_year wsX6_snowBits := goodIn_r _ [82, 28, 44, 45, 46, 20, 47, 33, 113, 114, 115, 116, 117, 118, 119, 120, 121, 122, 123] (by decide +kernel) (by decide +kernel)
set_option maxRecDepth 20000 in
theorem gX9_year_X6_snowBits : GoodIn wsX9_year (wsV RX9 138 RX6 yX6_snowBits wsX6_snowBits) := goodIn_app (goodIn_of _ (by decide +kernel)) ggX9_year_X6_snowBits
set_option maxRecDepth 20000 in
theorem ggX9_year_X6_freeBits : GoodIn wsX9_year wsX6_freeBits := goodIn_r _ [86, 52, 53, 54, 20, 55, 22, 44, 45, 46, 47, 33, 113, 114, 115, 116, 117, 118, 119, 120, 121, 122, 123] (by decide +kernel) (by decide +kernel)
set_option maxRecDepth 20000 in
theorem gX9_year_X6_freeBits : GoodIn wsX9_year (wsV RX9 141 RX6 yX6_freeBits wsX6_freeBits) := goodIn_app (goodIn_of _ (by decide +kernel)) ggX9_year_X6_freeBits
set_option maxRecDepth 20000 in
theorem ggX9_year_J6_bitCount_0f7a4 : GoodIn wsX9_year wsJ6_bitCount_0f7a4 := goodIn_r _ [90, 91, 92, 93] (by decide +kernel) (by decide +kernel)
set_option maxRecDepth 20000 in
theorem gX9_year_J6_bitCount_0f7a4 : GoodIn wsX9_year (va_wsS RX9 72 yJ6_bitCount_0f7a4 wsJ6_bitCount_0f7a4) := goodIn_app (goodIn_of _ (by decide +kernel)) ggX9_year_J6_bitCount_0f7a4
theorem dX9_year_0 : decode cX9_year 0 = .ok (.iload_n 1, 1) := by decide +kernel
theorem dX9_year_1 : decode cX9_year 1 = .ok (.sipush 9999, 3) := by decide +kernel
theorem dX9_year_4 : decode cX9_year 4 = .ok (.invokestatic 54, 3) := by decide +kernel
theorem dX9_year_7 : decode cX9_year 7 = .ok (.ifCond .eq 22, 3) := by decide +kernel
theorem dX9_year_10 : decode cX9_year 10 = .ok (.iload_n 2, 1) := by decide +kernel
theorem dX9_year_11 : decode cX9_year 11 = .ok (.iconst 1, 1) := by decide +kernel
theorem dX9_year_12 : decode cX9_year 12 = .ok (.if_icmp .lt 17, 3) := by decide +kernel
theorem dX9_year_15 : decode cX9_year 15 = .ok (.iload_n 2, 1) := by decide +kernel
theorem dX9_year_16 : decode cX9_year 16 = .ok (.bipush 99, 2) := by decide +kernel
theorem dX9_year_18 : decode cX9_year 18 = .ok (.if_icmp .gt 11, 3) := by decide +kernel
theorem dX9_year_21 : decode cX9_year 21 = .ok (.iload_n 3, 1) := by decide +kernel
theorem dX9_year_22 : decode cX9_year 22 = .ok (.iconst 2, 1) := by decide +kernel
theorem dX9_year_23 : decode cX9_year 23 = .ok (.invokestatic 54, 3) := by decide +kernel
theorem dX9_year_26 : decode cX9_year 26 = .ok (.ifCond .ne 6, 3) := by decide +kernel
theorem dX9_year_29 : decode cX9_year 29 = .ok (.bipush (-2), 2) := by decide +kernel
theorem dX9_year_31 : decode cX9_year 31 = .ok (.ireturn, 1) := by decide +kernel
theorem dX9_year_32 : decode cX9_year 32 = .ok (.aload_n 0, 1) := by decide +kernel
theorem dX9_year_33 : decode cX9_year 33 = .ok (.getfield 32, 3) := by decide +kernel
theorem dX9_year_36 : decode cX9_year 36 = .ok (.aload_n 0, 1) := by decide +kernel
theorem dX9_year_37 : decode cX9_year 37 = .ok (.getfield 10, 3) := by decide +kernel
theorem dX9_year_40 : decode cX9_year 40 = .ok (.getfield 58, 3) := by decide +kernel
theorem dX9_year_43 : decode cX9_year 43 = .ok (.iload_n 1, 1) := by decide +kernel
theorem dX9_year_44 : decode cX9_year 44 = .ok (.iload_n 2, 1) := by decide +kernel
theorem dX9_year_45 : decode cX9_year 45 = .ok (.invokevirtual 240, 3) := by decide +kernel
theorem dX9_year_48 : decode cX9_year 48 = .ok (.iload_n 3, 1) := by decide +kernel
theorem dX9_year_49 : decode cX9_year 49 = .ok (.ifCond .ne 14, 3) := by decide +kernel
theorem dX9_year_52 : decode cX9_year 52 = .ok (.aload_n 0, 1) := by decide +kernel
theorem dX9_year_53 : decode cX9_year 53 = .ok (.getfield 32, 3) := by decide +kernel
theorem dX9_year_56 : decode cX9_year 56 = .ok (.getfield 127, 3) := by decide +kernel
theorem dX9_year_59 : decode cX9_year 59 = .ok (.getfield 144, 3) := by decide +kernel
theorem dX9_year_62 : decode cX9_year 62 = .ok (.ireturn, 1) := by decide +kernel
theorem dX9_year_63 : decode cX9_year 63 = .ok (.iload_n 3, 1) := by decide +kernel
theorem dX9_year_64 : decode cX9_year 64 = .ok (.iconst 1, 1) := by decide +kernel
theorem dX9_year_65 : decode cX9_year 65 = .ok (.if_icmp .ne 16, 3) := by decide +kernel
theorem dX9_year_68 : decode cX9_year 68 = .ok (.aload_n 0, 1) := by decide +kernel
theorem dX9_year_69 : decode cX9_year 69 = .ok (.getfield 32, 3) := by decide +kernel
theorem dX9_year_72 : decode cX9_year 72 = .ok (.getfield 127, 3) := by decide +kernel
theorem dX9_year_75 : decode cX9_year 75 = .ok (.invokevirtual 138, 3) := by decide +kernel
theorem dX9_year_78 : decode cX9_year 78 = .ok (.goto 13, 3) := by decide +kernel
theorem dX9_year_81 : decode cX9_year 81 = .ok (.aload_n 0, 1) := by decide +kernel
theorem dX9_year_82 : decode cX9_year 82 = .ok (.getfield 32, 3) := by decide +kernel
theorem dX9_year_85 : decode cX9_year 85 = .ok (.getfield 127, 3) := by decide +kernel
theorem dX9_year_88 : decode cX9_year 88 = .ok (.invokevirtual 141, 3) := by decide +kernel
theorem dX9_year_91 : decode cX9_year 91 = .ok (.invokestatic 72, 3) := by decide +kernel
theorem dX9_year_94 : decode cX9_year 94 = .ok (.ireturn, 1) := by decide +kernel
set_option maxRecDepth 20000 in
theorem ggX9_image_X9_isUpTo : GoodIn wsX9_image wsX9_isUpTo := goodIn_r _ [9] (by decide +kernel) (by decide +kernel)
set_option maxRecDepth 20000 in
theorem gX9_image_X9_isUpTo : GoodIn wsX9_image (va_wsS RX9 54 yX9_isUpTo wsX9_isUpTo) := goodIn_app (goodIn_of _ (by decide +kernel)) ggX9_image_X9_isUpTo
set_option maxRecDepth 20000 in
theorem ggX9_image_X3_takeFrom : GoodIn wsX9_image wsX3_takeFrom := goodIn_r _ [14, 15, 16, 17, 18, 19, 20, 21, 22, 23, 24, 25, 26, 27, 28, 29, 30, 31, 32, 33, 34, 35, 36, 37, 38, 39, 40, 41, 42, 43, 44, 45, 46, 47, 48, 49, 50, 51, 52, 53, 63, 64, 65, 66, 67, 68, 69, 70, 71, 72, 73, 74, 75, 76, 77, 78, 79, 80, 81, 82] (by decide +kernel) (by decide +kernel)
set_option maxRecDepth 20000 in
theorem gX9_image_X3_takeFrom : GoodIn wsX9_image (wsV RX9 244 RX3 yX3_takeFrom wsX3_takeFrom) := goodIn_app (goodIn_of _ (by decide +kernel)) ggX9_image_X3_takeFrom
theorem dX9_image_0 : decode cX9_image 0 = .ok (.iload_n 1, 1) := by decide +kernel
theorem dX9_image_1 : decode cX9_image 1 = .ok (.iconst 1, 1) := by decide +kernel
theorem dX9_image_2 : decode cX9_image 2 = .ok (.invokestatic 54, 3) := by decide +kernel
theorem dX9_image_5 : decode cX9_image 5 = .ok (.ifCond .ne 6, 3) := by decide +kernel
theorem dX9_image_8 : decode cX9_image 8 = .ok (.bipush (-2), 2) := by decide +kernel
theorem dX9_image_10 : decode cX9_image 10 = .ok (.ireturn, 1) := by decide +kernel
theorem dX9_image_11 : decode cX9_image 11 = .ok (.iload_n 1, 1) := by decide +kernel
theorem dX9_image_12 : decode cX9_image 12 = .ok (.ifCond .ne 22, 3) := by decide +kernel
theorem dX9_image_15 : decode cX9_image 15 = .ok (.aload_n 0, 1) := by decide +kernel
theorem dX9_image_16 : decode cX9_image 16 = .ok (.getfield 16, 3) := by decide +kernel
theorem dX9_image_19 : decode cX9_image 19 = .ok (.aload_n 0, 1) := by decide +kernel
theorem dX9_image_20 : decode cX9_image 20 = .ok (.getfield 10, 3) := by decide +kernel
theorem dX9_image_23 : decode cX9_image 23 = .ok (.invokevirtual 244, 3) := by decide +kernel
theorem dX9_image_26 : decode cX9_image 26 = .ok (.aload_n 0, 1) := by decide +kernel
theorem dX9_image_27 : decode cX9_image 27 = .ok (.iconst 1, 1) := by decide +kernel
theorem dX9_image_28 : decode cX9_image 28 = .ok (.putfield 247, 3) := by decide +kernel
theorem dX9_image_31 : decode cX9_image 31 = .ok (.goto 19, 3) := by decide +kernel
theorem dX9_image_34 : decode cX9_image 34 = .ok (.aload_n 0, 1) := by decide +kernel
theorem dX9_image_35 : decode cX9_image 35 = .ok (.getfield 19, 3) := by decide +kernel
theorem dX9_image_38 : decode cX9_image 38 = .ok (.aload_n 0, 1) := by decide +kernel
theorem dX9_image_39 : decode cX9_image 39 = .ok (.getfield 10, 3) := by decide +kernel
theorem dX9_image_42 : decode cX9_image 42 = .ok (.invokevirtual 244, 3) := by decide +kernel
theorem dX9_image_45 : decode cX9_image 45 = .ok (.aload_n 0, 1) := by decide +kernel
theorem dX9_image_46 : decode cX9_image 46 = .ok (.iconst 1, 1) := by decide +kernel
theorem dX9_image_47 : decode cX9_image 47 = .ok (.putfield 250, 3) := by decide +kernel
theorem dX9_image_50 : decode cX9_image 50 = .ok (.iconst 1, 1) := by decide +kernel
theorem dX9_image_51 : decode cX9_image 51 = .ok (.ireturn, 1) := by decide +kernel
set_option maxRecDepth 20000 in
theorem ggX9_restore_X9_isUpTo : GoodIn wsX9_restore wsX9_isUpTo := goodIn_r _ [9] (by decide +kernel) (by decide +kernel)
set_option maxRecDepth 20000 in
theorem gX9_restore_X9_isUpTo : GoodIn wsX9_restore (va_wsS RX9 54 yX9_isUpTo wsX9_isUpTo) := goodIn_app (goodIn_of _ (by decide +kernel)) ggX9_restore_X9_isUpTo
set_option maxRecDepth 20000 in
theorem ggX9_restore_X3_takeFrom : GoodIn wsX9_restore wsX3_takeFrom := goodIn_r _ [14, 15, 16, 17, 18, 19, 20, 21, 22, 23, 24, 25, 26, 27, 28, 29, 30, 31, 32, 33, 34, 35, 36, 37, 38, 39, 40, 41, 42, 43, 44, 45, 46, 47, 48, 49, 50, 51, 52, 53, 63, 64, 65, 66, 67, 68, 69, 70, 71, 72, 73, 74, 75, 76, 77, 78, 79, 80, 81, 82] (by decide +kernel) (by decide +kernel)
set_option maxRecDepth 20000 in
theorem gX9_restore_X3_takeFrom : GoodIn wsX9_restore (wsV RX9 244 RX3 yX3_takeFrom wsX3_takeFrom) := goodIn_app (goodIn_of _ (by decide +kernel)) ggX9_restore_X3_takeFrom
theorem dX9_restore_0 : decode cX9_restore 0 = .ok (.iload_n 1, 1) := by decide +kernel
theorem dX9_restore_1 : decode cX9_restore 1 = .ok (.iconst 1, 1) := by decide +kernel
theorem dX9_restore_2 : decode cX9_restore 2 = .ok (.invokestatic 54, 3) := by decide +kernel
theorem dX9_restore_5 : decode cX9_restore 5 = .ok (.ifCond .ne 6, 3) := by decide +kernel
theorem dX9_restore_8 : decode cX9_restore 8 = .ok (.bipush (-2), 2) := by decide +kernel
theorem dX9_restore_10 : decode cX9_restore 10 = .ok (.ireturn, 1) := by decide +kernel
theorem dX9_restore_11 : decode cX9_restore 11 = .ok (.iload_n 1, 1) := by decide +kernel
theorem dX9_restore_12 : decode cX9_restore 12 = .ok (.ifCond .ne 13, 3) := by decide +kernel
theorem dX9_restore_15 : decode cX9_restore 15 = .ok (.aload_n 0, 1) := by decide +kernel
theorem dX9_restore_16 : decode cX9_restore 16 = .ok (.getfield 247, 3) := by decide +kernel
theorem dX9_restore_19 : decode cX9_restore 19 = .ok (.ifCond .ne 16, 3) := by decide +kernel
theorem dX9_restore_22 : decode cX9_restore 22 = .ok (.goto 10, 3) := by decide +kernel
theorem dX9_restore_25 : decode cX9_restore 25 = .ok (.aload_n 0, 1) := by decide +kernel
theorem dX9_restore_26 : decode cX9_restore 26 = .ok (.getfield 250, 3) := by decide +kernel
theorem dX9_restore_29 : decode cX9_restore 29 = .ok (.ifCond .ne 6, 3) := by decide +kernel
theorem dX9_restore_32 : decode cX9_restore 32 = .ok (.bipush (-3), 2) := by decide +kernel
theorem dX9_restore_34 : decode cX9_restore 34 = .ok (.ireturn, 1) := by decide +kernel
theorem dX9_restore_35 : decode cX9_restore 35 = .ok (.aload_n 0, 1) := by decide +kernel
theorem dX9_restore_36 : decode cX9_restore 36 = .ok (.getfield 10, 3) := by decide +kernel
theorem dX9_restore_39 : decode cX9_restore 39 = .ok (.iload_n 1, 1) := by decide +kernel
theorem dX9_restore_40 : decode cX9_restore 40 = .ok (.ifCond .ne 10, 3) := by decide +kernel
theorem dX9_restore_43 : decode cX9_restore 43 = .ok (.aload_n 0, 1) := by decide +kernel
theorem dX9_restore_44 : decode cX9_restore 44 = .ok (.getfield 16, 3) := by decide +kernel
theorem dX9_restore_47 : decode cX9_restore 47 = .ok (.goto 7, 3) := by decide +kernel
theorem dX9_restore_50 : decode cX9_restore 50 = .ok (.aload_n 0, 1) := by decide +kernel
theorem dX9_restore_51 : decode cX9_restore 51 = .ok (.getfield 19, 3) := by decide +kernel
theorem dX9_restore_54 : decode cX9_restore 54 = .ok (.invokevirtual 244, 3) := by decide +kernel
theorem dX9_restore_57 : decode cX9_restore 57 = .ok (.iconst 1, 1) := by decide +kernel
theorem dX9_restore_58 : decode cX9_restore 58 = .ok (.ireturn, 1) := by decide +kernel
set_option maxRecDepth 20000 in
theorem ggX9_told_X2_row : GoodIn wsX9_told wsX2_row := goodIn_r _ [15, 16, 17, 18, 14, 19, 20, 83, 84, 85] (by decide +kernel) (by decide +kernel)
set_option maxRecDepth 20000 in
theorem gX9_told_X2_row : GoodIn wsX9_told (wsV RX9 182 RX2 yX2_row wsX2_row) := goodIn_app (goodIn_of _ (by decide +kernel)) ggX9_told_X2_row
set_option maxRecDepth 20000 in
theorem ggX9_told_X6_toldOf : GoodIn wsX9_told wsX6_toldOf := goodIn_r _ [25, 26, 27, 28, 29, 30, 31, 32, 33, 34, 35, 24, 36, 37, 38, 39, 40, 41, 42, 69, 70, 71, 72, 73, 74, 75, 76, 77, 78, 79] (by decide +kernel) (by decide +kernel)
set_option maxRecDepth 20000 in
theorem gX9_told_X6_toldOf : GoodIn wsX9_told (wsV RX9 253 RX6 yX6_toldOf wsX6_toldOf) := goodIn_app (goodIn_of _ (by decide +kernel)) ggX9_told_X6_toldOf
set_option maxRecDepth 20000 in
theorem ggX9_told_X6_snowBits : GoodIn wsX9_told wsX6_snowBits := goodIn_r _ [46, 28, 33, 34, 35, 24, 36, 37, 69, 70, 71, 72, 73, 74, 75, 76, 77, 78, 79] (by decide +kernel) (by decide +kernel)
set_option maxRecDepth 20000 in
theorem gX9_told_X6_snowBits : GoodIn wsX9_told (wsV RX9 138 RX6 yX6_snowBits wsX6_snowBits) := goodIn_app (goodIn_of _ (by decide +kernel)) ggX9_told_X6_snowBits
set_option maxRecDepth 20000 in
theorem ggX9_told_X6_freeBits : GoodIn wsX9_told wsX6_freeBits := goodIn_r _ [50, 51, 52, 53, 24, 54, 26, 33, 34, 35, 36, 37, 69, 70, 71, 72, 73, 74, 75, 76, 77, 78, 79] (by decide +kernel) (by decide +kernel)
set_option maxRecDepth 20000 in
theorem gX9_told_X6_freeBits : GoodIn wsX9_told (wsV RX9 141 RX6 yX6_freeBits wsX6_freeBits) := goodIn_app (goodIn_of _ (by decide +kernel)) ggX9_told_X6_freeBits
theorem dX9_told_0 : decode cX9_told 0 = .ok (.iload_n 1, 1) := by decide +kernel
theorem dX9_told_1 : decode cX9_told 1 = .ok (.bipush 100, 2) := by decide +kernel
theorem dX9_told_3 : decode cX9_told 3 = .ok (.if_icmp .lt 24, 3) := by decide +kernel
theorem dX9_told_6 : decode cX9_told 6 = .ok (.iload_n 1, 1) := by decide +kernel
theorem dX9_told_7 : decode cX9_told 7 = .ok (.bipush 106, 2) := by decide +kernel
theorem dX9_told_9 : decode cX9_told 9 = .ok (.if_icmp .ge 18, 3) := by decide +kernel
theorem dX9_told_12 : decode cX9_told 12 = .ok (.aload_n 0, 1) := by decide +kernel
theorem dX9_told_13 : decode cX9_told 13 = .ok (.getfield 10, 3) := by decide +kernel
theorem dX9_told_16 : decode cX9_told 16 = .ok (.getfield 178, 3) := by decide +kernel
theorem dX9_told_19 : decode cX9_told 19 = .ok (.iload_n 1, 1) := by decide +kernel
theorem dX9_told_20 : decode cX9_told 20 = .ok (.bipush 100, 2) := by decide +kernel
theorem dX9_told_22 : decode cX9_told 22 = .ok (.isub, 1) := by decide +kernel
theorem dX9_told_23 : decode cX9_told 23 = .ok (.invokevirtual 182, 3) := by decide +kernel
theorem dX9_told_26 : decode cX9_told 26 = .ok (.ireturn, 1) := by decide +kernel
theorem dX9_told_27 : decode cX9_told 27 = .ok (.iload_n 1, 1) := by decide +kernel
theorem dX9_told_28 : decode cX9_told 28 = .ok (.bipush 10, 2) := by decide +kernel
theorem dX9_told_30 : decode cX9_told 30 = .ok (.if_icmp .lt 30, 3) := by decide +kernel
theorem dX9_told_33 : decode cX9_told 33 = .ok (.iload_n 1, 1) := by decide +kernel
theorem dX9_told_34 : decode cX9_told 34 = .ok (.bipush 90, 2) := by decide +kernel
theorem dX9_told_36 : decode cX9_told 36 = .ok (.if_icmp .ge 24, 3) := by decide +kernel
theorem dX9_told_39 : decode cX9_told 39 = .ok (.aload_n 0, 1) := by decide +kernel
theorem dX9_told_40 : decode cX9_told 40 = .ok (.getfield 10, 3) := by decide +kernel
theorem dX9_told_43 : decode cX9_told 43 = .ok (.getfield 58, 3) := by decide +kernel
theorem dX9_told_46 : decode cX9_told 46 = .ok (.iload_n 1, 1) := by decide +kernel
theorem dX9_told_47 : decode cX9_told 47 = .ok (.bipush 10, 2) := by decide +kernel
theorem dX9_told_49 : decode cX9_told 49 = .ok (.idiv, 1) := by decide +kernel
theorem dX9_told_50 : decode cX9_told 50 = .ok (.iconst 1, 1) := by decide +kernel
theorem dX9_told_51 : decode cX9_told 51 = .ok (.isub, 1) := by decide +kernel
theorem dX9_told_52 : decode cX9_told 52 = .ok (.iload_n 1, 1) := by decide +kernel
theorem dX9_told_53 : decode cX9_told 53 = .ok (.bipush 10, 2) := by decide +kernel
theorem dX9_told_55 : decode cX9_told 55 = .ok (.irem, 1) := by decide +kernel
theorem dX9_told_56 : decode cX9_told 56 = .ok (.invokevirtual 253, 3) := by decide +kernel
theorem dX9_told_59 : decode cX9_told 59 = .ok (.ireturn, 1) := by decide +kernel
theorem dX9_told_60 : decode cX9_told 60 = .ok (.iload_n 1, 1) := by decide +kernel
theorem dX9_told_61 : decode cX9_told 61 = .ok (.tableswitch 117 0 6 #[43, 51, 62, 73, 84, 95, 106], 43) := by decide +kernel
theorem dX9_told_104 : decode cX9_told 104 = .ok (.aload_n 0, 1) := by decide +kernel
theorem dX9_told_105 : decode cX9_told 105 = .ok (.getfield 25, 3) := by decide +kernel
theorem dX9_told_108 : decode cX9_told 108 = .ok (.getfield 106, 3) := by decide +kernel
theorem dX9_told_111 : decode cX9_told 111 = .ok (.ireturn, 1) := by decide +kernel
theorem dX9_told_112 : decode cX9_told 112 = .ok (.aload_n 0, 1) := by decide +kernel
theorem dX9_told_113 : decode cX9_told 113 = .ok (.getfield 10, 3) := by decide +kernel
theorem dX9_told_116 : decode cX9_told 116 = .ok (.getfield 58, 3) := by decide +kernel
theorem dX9_told_119 : decode cX9_told 119 = .ok (.getfield 68, 3) := by decide +kernel
theorem dX9_told_122 : decode cX9_told 122 = .ok (.ireturn, 1) := by decide +kernel
theorem dX9_told_123 : decode cX9_told 123 = .ok (.aload_n 0, 1) := by decide +kernel
theorem dX9_told_124 : decode cX9_told 124 = .ok (.getfield 10, 3) := by decide +kernel
theorem dX9_told_127 : decode cX9_told 127 = .ok (.getfield 58, 3) := by decide +kernel
theorem dX9_told_130 : decode cX9_told 130 = .ok (.invokevirtual 138, 3) := by decide +kernel
theorem dX9_told_133 : decode cX9_told 133 = .ok (.ireturn, 1) := by decide +kernel
theorem dX9_told_134 : decode cX9_told 134 = .ok (.aload_n 0, 1) := by decide +kernel
theorem dX9_told_135 : decode cX9_told 135 = .ok (.getfield 10, 3) := by decide +kernel
theorem dX9_told_138 : decode cX9_told 138 = .ok (.getfield 58, 3) := by decide +kernel
theorem dX9_told_141 : decode cX9_told 141 = .ok (.invokevirtual 141, 3) := by decide +kernel
theorem dX9_told_144 : decode cX9_told 144 = .ok (.ireturn, 1) := by decide +kernel
theorem dX9_told_145 : decode cX9_told 145 = .ok (.aload_n 0, 1) := by decide +kernel
theorem dX9_told_146 : decode cX9_told 146 = .ok (.getfield 10, 3) := by decide +kernel
theorem dX9_told_149 : decode cX9_told 149 = .ok (.getfield 58, 3) := by decide +kernel
theorem dX9_told_152 : decode cX9_told 152 = .ok (.getfield 144, 3) := by decide +kernel
theorem dX9_told_155 : decode cX9_told 155 = .ok (.ireturn, 1) := by decide +kernel
theorem dX9_told_156 : decode cX9_told 156 = .ok (.aload_n 0, 1) := by decide +kernel
theorem dX9_told_157 : decode cX9_told 157 = .ok (.getfield 10, 3) := by decide +kernel
theorem dX9_told_160 : decode cX9_told 160 = .ok (.getfield 58, 3) := by decide +kernel
theorem dX9_told_163 : decode cX9_told 163 = .ok (.getfield 147, 3) := by decide +kernel
theorem dX9_told_166 : decode cX9_told 166 = .ok (.ireturn, 1) := by decide +kernel
theorem dX9_told_167 : decode cX9_told 167 = .ok (.aload_n 0, 1) := by decide +kernel
theorem dX9_told_168 : decode cX9_told 168 = .ok (.getfield 10, 3) := by decide +kernel
theorem dX9_told_171 : decode cX9_told 171 = .ok (.getfield 198, 3) := by decide +kernel
theorem dX9_told_174 : decode cX9_told 174 = .ok (.getfield 206, 3) := by decide +kernel
theorem dX9_told_177 : decode cX9_told 177 = .ok (.ireturn, 1) := by decide +kernel
theorem dX9_told_178 : decode cX9_told 178 = .ok (.bipush (-2), 2) := by decide +kernel
theorem dX9_told_180 : decode cX9_told 180 = .ok (.ireturn, 1) := by decide +kernel
theorem dX9_isUpTo_0 : decode cX9_isUpTo 0 = .ok (.iload_n 0, 1) := by decide +kernel
theorem dX9_isUpTo_1 : decode cX9_isUpTo 1 = .ok (.ifCond .lt 12, 3) := by decide +kernel
theorem dX9_isUpTo_4 : decode cX9_isUpTo 4 = .ok (.iload_n 0, 1) := by decide +kernel
theorem dX9_isUpTo_5 : decode cX9_isUpTo 5 = .ok (.iload_n 1, 1) := by decide +kernel
theorem dX9_isUpTo_6 : decode cX9_isUpTo 6 = .ok (.if_icmp .gt 7, 3) := by decide +kernel
theorem dX9_isUpTo_9 : decode cX9_isUpTo 9 = .ok (.iconst 1, 1) := by decide +kernel
theorem dX9_isUpTo_10 : decode cX9_isUpTo 10 = .ok (.goto 4, 3) := by decide +kernel
theorem dX9_isUpTo_13 : decode cX9_isUpTo 13 = .ok (.iconst 0, 1) := by decide +kernel
theorem dX9_isUpTo_14 : decode cX9_isUpTo 14 = .ok (.ireturn, 1) := by decide +kernel
theorem dX9_isGlobe_0 : decode cX9_isGlobe 0 = .ok (.iload_n 0, 1) := by decide +kernel
theorem dX9_isGlobe_1 : decode cX9_isGlobe 1 = .ok (.ifCond .lt 13, 3) := by decide +kernel
theorem dX9_isGlobe_4 : decode cX9_isGlobe 4 = .ok (.iload_n 0, 1) := by decide +kernel
theorem dX9_isGlobe_5 : decode cX9_isGlobe 5 = .ok (.bipush 8, 2) := by decide +kernel
theorem dX9_isGlobe_7 : decode cX9_isGlobe 7 = .ok (.if_icmp .ge 7, 3) := by decide +kernel
theorem dX9_isGlobe_10 : decode cX9_isGlobe 10 = .ok (.iconst 1, 1) := by decide +kernel
theorem dX9_isGlobe_11 : decode cX9_isGlobe 11 = .ok (.goto 4, 3) := by decide +kernel
theorem dX9_isGlobe_14 : decode cX9_isGlobe 14 = .ok (.iconst 0, 1) := by decide +kernel
theorem dX9_isGlobe_15 : decode cX9_isGlobe 15 = .ok (.ireturn, 1) := by decide +kernel
theorem dX10_init_0 : decode cX10_init 0 = .ok (.aload_n 0, 1) := by decide +kernel
theorem dX10_init_1 : decode cX10_init 1 = .ok (.invokespecial 1, 3) := by decide +kernel
theorem dX10_init_4 : decode cX10_init 4 = .ok (.aload_n 0, 1) := by decide +kernel
theorem dX10_init_5 : decode cX10_init 5 = .ok (.bipush 43, 2) := by decide +kernel
theorem dX10_init_7 : decode cX10_init 7 = .ok (.newarray .int, 2) := by decide +kernel
theorem dX10_init_9 : decode cX10_init 9 = .ok (.putfield 7, 3) := by decide +kernel
theorem dX10_init_12 : decode cX10_init 12 = .ok (.aload_n 0, 1) := by decide +kernel
theorem dX10_init_13 : decode cX10_init 13 = .ok (.bipush 43, 2) := by decide +kernel
theorem dX10_init_15 : decode cX10_init 15 = .ok (.newarray .int, 2) := by decide +kernel
theorem dX10_init_17 : decode cX10_init 17 = .ok (.putfield 13, 3) := by decide +kernel
theorem dX10_init_20 : decode cX10_init 20 = .ok (.aload_n 0, 1) := by decide +kernel
theorem dX10_init_21 : decode cX10_init 21 = .ok (.bipush 8, 2) := by decide +kernel
theorem dX10_init_23 : decode cX10_init 23 = .ok (.newarray .int, 2) := by decide +kernel
theorem dX10_init_25 : decode cX10_init 25 = .ok (.putfield 16, 3) := by decide +kernel
theorem dX10_init_28 : decode cX10_init 28 = .ok (.aload_n 0, 1) := by decide +kernel
theorem dX10_init_29 : decode cX10_init 29 = .ok (.bipush 8, 2) := by decide +kernel
theorem dX10_init_31 : decode cX10_init 31 = .ok (.newarray .int, 2) := by decide +kernel
theorem dX10_init_33 : decode cX10_init 33 = .ok (.putfield 19, 3) := by decide +kernel
theorem dX10_init_36 : decode cX10_init 36 = .ok (.aload_n 0, 1) := by decide +kernel
theorem dX10_init_37 : decode cX10_init 37 = .ok (.bipush 6, 2) := by decide +kernel
theorem dX10_init_39 : decode cX10_init 39 = .ok (.newarray .int, 2) := by decide +kernel
theorem dX10_init_41 : decode cX10_init 41 = .ok (.putfield 22, 3) := by decide +kernel
theorem dX10_init_44 : decode cX10_init 44 = .ok (.aload_n 0, 1) := by decide +kernel
theorem dX10_init_45 : decode cX10_init 45 = .ok (.bipush 16, 2) := by decide +kernel
theorem dX10_init_47 : decode cX10_init 47 = .ok (.newarray .int, 2) := by decide +kernel
theorem dX10_init_49 : decode cX10_init 49 = .ok (.putfield 25, 3) := by decide +kernel
theorem dX10_init_52 : decode cX10_init 52 = .ok (.aload_n 0, 1) := by decide +kernel
theorem dX10_init_53 : decode cX10_init 53 = .ok (.bipush 60, 2) := by decide +kernel
theorem dX10_init_55 : decode cX10_init 55 = .ok (.newarray .int, 2) := by decide +kernel
theorem dX10_init_57 : decode cX10_init 57 = .ok (.putfield 28, 3) := by decide +kernel
theorem dX10_init_60 : decode cX10_init 60 = .ok (.aload_n 0, 1) := by decide +kernel
theorem dX10_init_61 : decode cX10_init 61 = .ok (.bipush 6, 2) := by decide +kernel
theorem dX10_init_63 : decode cX10_init 63 = .ok (.newarray .int, 2) := by decide +kernel
theorem dX10_init_65 : decode cX10_init 65 = .ok (.putfield 31, 3) := by decide +kernel
theorem dX10_init_68 : decode cX10_init 68 = .ok (.aload_n 0, 1) := by decide +kernel
theorem dX10_init_69 : decode cX10_init 69 = .ok (.bipush 100, 2) := by decide +kernel
theorem dX10_init_71 : decode cX10_init 71 = .ok (.newarray .int, 2) := by decide +kernel
theorem dX10_init_73 : decode cX10_init 73 = .ok (.putfield 34, 3) := by decide +kernel
theorem dX10_init_76 : decode cX10_init 76 = .ok (.aload_n 0, 1) := by decide +kernel
theorem dX10_init_77 : decode cX10_init 77 = .ok (.bipush 8, 2) := by decide +kernel
theorem dX10_init_79 : decode cX10_init 79 = .ok (.newarray .int, 2) := by decide +kernel
theorem dX10_init_81 : decode cX10_init 81 = .ok (.putfield 37, 3) := by decide +kernel
theorem dX10_init_84 : decode cX10_init 84 = .ok (.aload_n 0, 1) := by decide +kernel
theorem dX10_init_85 : decode cX10_init 85 = .ok (.bipush 19, 2) := by decide +kernel
theorem dX10_init_87 : decode cX10_init 87 = .ok (.newarray .long, 2) := by decide +kernel
theorem dX10_init_89 : decode cX10_init 89 = .ok (.putfield 40, 3) := by decide +kernel
theorem dX10_init_92 : decode cX10_init 92 = .ok (.aload_n 0, 1) := by decide +kernel
theorem dX10_init_93 : decode cX10_init 93 = .ok (.sipush 200, 3) := by decide +kernel
theorem dX10_init_96 : decode cX10_init 96 = .ok (.newarray .int, 2) := by decide +kernel
theorem dX10_init_98 : decode cX10_init 98 = .ok (.putfield 44, 3) := by decide +kernel
theorem dX10_init_101 : decode cX10_init 101 = .ok (.aload_n 0, 1) := by decide +kernel
theorem dX10_init_102 : decode cX10_init 102 = .ok (.iconst 2, 1) := by decide +kernel
theorem dX10_init_103 : decode cX10_init 103 = .ok (.newarray .boolean, 2) := by decide +kernel
theorem dX10_init_105 : decode cX10_init 105 = .ok (.putfield 47, 3) := by decide +kernel
theorem dX10_init_108 : decode cX10_init 108 = .ok (.iconst 0, 1) := by decide +kernel
theorem dX10_init_109 : decode cX10_init 109 = .ok (.istore_n 1, 1) := by decide +kernel
theorem dX10_init_110 : decode cX10_init 110 = .ok (.iload_n 1, 1) := by decide +kernel
theorem dX10_init_111 : decode cX10_init 111 = .ok (.bipush 8, 2) := by decide +kernel
theorem dX10_init_113 : decode cX10_init 113 = .ok (.if_icmp .ge 20, 3) := by decide +kernel
theorem dX10_init_116 : decode cX10_init 116 = .ok (.aload_n 0, 1) := by decide +kernel
theorem dX10_init_117 : decode cX10_init 117 = .ok (.getfield 7, 3) := by decide +kernel
theorem dX10_init_120 : decode cX10_init 120 = .ok (.bipush 32, 2) := by decide +kernel
theorem dX10_init_122 : decode cX10_init 122 = .ok (.iload_n 1, 1) := by decide +kernel
theorem dX10_init_123 : decode cX10_init 123 = .ok (.iadd, 1) := by decide +kernel
theorem dX10_init_124 : decode cX10_init 124 = .ok (.bipush (-6), 2) := by decide +kernel
theorem dX10_init_126 : decode cX10_init 126 = .ok (.iastore, 1) := by decide +kernel
theorem dX10_init_127 : decode cX10_init 127 = .ok (.iinc 1 1, 3) := by decide +kernel
theorem dX10_init_130 : decode cX10_init 130 = .ok (.goto (-20), 3) := by decide +kernel
theorem dX10_init_133 : decode cX10_init 133 = .ok (.iconst 0, 1) := by decide +kernel
theorem dX10_init_134 : decode cX10_init 134 = .ok (.istore_n 1, 1) := by decide +kernel
theorem dX10_init_135 : decode cX10_init 135 = .ok (.iload_n 1, 1) := by decide +kernel
theorem dX10_init_136 : decode cX10_init 136 = .ok (.bipush 6, 2) := by decide +kernel
theorem dX10_init_138 : decode cX10_init 138 = .ok (.if_icmp .ge 18, 3) := by decide +kernel
theorem dX10_init_141 : decode cX10_init 141 = .ok (.aload_n 0, 1) := by decide +kernel
theorem dX10_init_142 : decode cX10_init 142 = .ok (.getfield 22, 3) := by decide +kernel
theorem dX10_init_145 : decode cX10_init 145 = .ok (.iload_n 1, 1) := by decide +kernel
theorem dX10_init_146 : decode cX10_init 146 = .ok (.sipush 12345, 3) := by decide +kernel
theorem dX10_init_149 : decode cX10_init 149 = .ok (.iastore, 1) := by decide +kernel
theorem dX10_init_150 : decode cX10_init 150 = .ok (.iinc 1 1, 3) := by decide +kernel
theorem dX10_init_153 : decode cX10_init 153 = .ok (.goto (-18), 3) := by decide +kernel
theorem dX10_init_156 : decode cX10_init 156 = .ok (.return_, 1) := by decide +kernel
theorem dX10_in_0 : decode cX10_in 0 = .ok (.iload_n 0, 1) := by decide +kernel
theorem dX10_in_1 : decode cX10_in 1 = .ok (.iload_n 1, 1) := by decide +kernel
theorem dX10_in_2 : decode cX10_in 2 = .ok (.if_icmp .lt 12, 3) := by decide +kernel
theorem dX10_in_5 : decode cX10_in 5 = .ok (.iload_n 0, 1) := by decide +kernel
theorem dX10_in_6 : decode cX10_in 6 = .ok (.iload_n 2, 1) := by decide +kernel
theorem dX10_in_7 : decode cX10_in 7 = .ok (.if_icmp .gt 7, 3) := by decide +kernel
theorem dX10_in_10 : decode cX10_in 10 = .ok (.iconst 1, 1) := by decide +kernel
theorem dX10_in_11 : decode cX10_in 11 = .ok (.goto 4, 3) := by decide +kernel
theorem dX10_in_14 : decode cX10_in 14 = .ok (.iconst 0, 1) := by decide +kernel
theorem dX10_in_15 : decode cX10_in 15 = .ok (.ireturn, 1) := by decide +kernel
theorem dX10_has_0 : decode cX10_has 0 = .ok (.iload_n 0, 1) := by decide +kernel
theorem dX10_has_1 : decode cX10_has 1 = .ok (.iload_n 1, 1) := by decide +kernel
theorem dX10_has_2 : decode cX10_has 2 = .ok (.ishr, 1) := by decide +kernel
theorem dX10_has_3 : decode cX10_has 3 = .ok (.iconst 1, 1) := by decide +kernel
theorem dX10_has_4 : decode cX10_has 4 = .ok (.iand, 1) := by decide +kernel
theorem dX10_has_5 : decode cX10_has 5 = .ok (.iconst 1, 1) := by decide +kernel
theorem dX10_has_6 : decode cX10_has 6 = .ok (.if_icmp .ne 7, 3) := by decide +kernel
theorem dX10_has_9 : decode cX10_has 9 = .ok (.iconst 1, 1) := by decide +kernel
theorem dX10_has_10 : decode cX10_has 10 = .ok (.goto 4, 3) := by decide +kernel
theorem dX10_has_13 : decode cX10_has 13 = .ok (.iconst 0, 1) := by decide +kernel
theorem dX10_has_14 : decode cX10_has 14 = .ok (.ireturn, 1) := by decide +kernel
theorem dX10_bits_0 : decode cX10_bits 0 = .ok (.iconst 0, 1) := by decide +kernel
theorem dX10_bits_1 : decode cX10_bits 1 = .ok (.istore_n 1, 1) := by decide +kernel
theorem dX10_bits_2 : decode cX10_bits 2 = .ok (.iconst 0, 1) := by decide +kernel
theorem dX10_bits_3 : decode cX10_bits 3 = .ok (.istore_n 2, 1) := by decide +kernel
theorem dX10_bits_4 : decode cX10_bits 4 = .ok (.iload_n 2, 1) := by decide +kernel
theorem dX10_bits_5 : decode cX10_bits 5 = .ok (.bipush 8, 2) := by decide +kernel
theorem dX10_bits_7 : decode cX10_bits 7 = .ok (.if_icmp .ge 17, 3) := by decide +kernel
theorem dX10_bits_10 : decode cX10_bits 10 = .ok (.iload_n 1, 1) := by decide +kernel
theorem dX10_bits_11 : decode cX10_bits 11 = .ok (.iload_n 0, 1) := by decide +kernel
theorem dX10_bits_12 : decode cX10_bits 12 = .ok (.iload_n 2, 1) := by decide +kernel
theorem dX10_bits_13 : decode cX10_bits 13 = .ok (.ishr, 1) := by decide +kernel
theorem dX10_bits_14 : decode cX10_bits 14 = .ok (.iconst 1, 1) := by decide +kernel
theorem dX10_bits_15 : decode cX10_bits 15 = .ok (.iand, 1) := by decide +kernel
theorem dX10_bits_16 : decode cX10_bits 16 = .ok (.iadd, 1) := by decide +kernel
theorem dX10_bits_17 : decode cX10_bits 17 = .ok (.istore_n 1, 1) := by decide +kernel
theorem dX10_bits_18 : decode cX10_bits 18 = .ok (.iinc 2 1, 3) := by decide +kernel
theorem dX10_bits_21 : decode cX10_bits 21 = .ok (.goto (-17), 3) := by decide +kernel
theorem dX10_bits_24 : decode cX10_bits 24 = .ok (.iload_n 1, 1) := by decide +kernel
theorem dX10_bits_25 : decode cX10_bits 25 = .ok (.ireturn, 1) := by decide +kernel
set_option maxRecDepth 20000 in
theorem ggX10_isThere_X10_in : GoodIn wsX10_isThere wsX10_in := goodIn_r _ [5] (by decide +kernel) (by decide +kernel)
set_option maxRecDepth 20000 in
theorem gX10_isThere_X10_in : GoodIn wsX10_isThere (va_wsS RX10 51 yX10_in wsX10_in) := goodIn_app (goodIn_of _ (by decide +kernel)) ggX10_isThere_X10_in
set_option maxRecDepth 20000 in
theorem ggX10_isThere_X10_has : GoodIn wsX10_isThere wsX10_has := goodIn_r _ [8] (by decide +kernel) (by decide +kernel)
set_option maxRecDepth 20000 in
theorem gX10_isThere_X10_has : GoodIn wsX10_isThere (va_wsS RX10 55 yX10_has wsX10_has) := goodIn_app (goodIn_of _ (by decide +kernel)) ggX10_isThere_X10_has
theorem dX10_isThere_0 : decode cX10_isThere 0 = .ok (.iload_n 1, 1) := by decide +kernel
theorem dX10_isThere_1 : decode cX10_isThere 1 = .ok (.iconst 0, 1) := by decide +kernel
theorem dX10_isThere_2 : decode cX10_isThere 2 = .ok (.bipush 7, 2) := by decide +kernel
theorem dX10_isThere_4 : decode cX10_isThere 4 = .ok (.invokestatic 51, 3) := by decide +kernel
theorem dX10_isThere_7 : decode cX10_isThere 7 = .ok (.ifCond .eq 21, 3) := by decide +kernel
theorem dX10_isThere_10 : decode cX10_isThere 10 = .ok (.aload_n 0, 1) := by decide +kernel
theorem dX10_isThere_11 : decode cX10_isThere 11 = .ok (.getfield 7, 3) := by decide +kernel
theorem dX10_isThere_14 : decode cX10_isThere 14 = .ok (.bipush 40, 2) := by decide +kernel
theorem dX10_isThere_16 : decode cX10_isThere 16 = .ok (.iaload, 1) := by decide +kernel
theorem dX10_isThere_17 : decode cX10_isThere 17 = .ok (.iload_n 1, 1) := by decide +kernel
theorem dX10_isThere_18 : decode cX10_isThere 18 = .ok (.invokestatic 55, 3) := by decide +kernel
theorem dX10_isThere_21 : decode cX10_isThere 21 = .ok (.ifCond .eq 7, 3) := by decide +kernel
theorem dX10_isThere_24 : decode cX10_isThere 24 = .ok (.iconst 1, 1) := by decide +kernel
theorem dX10_isThere_25 : decode cX10_isThere 25 = .ok (.goto 4, 3) := by decide +kernel
theorem dX10_isThere_28 : decode cX10_isThere 28 = .ok (.iconst 0, 1) := by decide +kernel
theorem dX10_isThere_29 : decode cX10_isThere 29 = .ok (.ireturn, 1) := by decide +kernel
theorem dX10_isWithin_0 : decode cX10_isWithin 0 = .ok (.iload_n 1, 1) := by decide +kernel
theorem dX10_isWithin_1 : decode cX10_isWithin 1 = .ok (.istore_n 3, 1) := by decide +kernel
theorem dX10_isWithin_2 : decode cX10_isWithin 2 = .ok (.iload_n 3, 1) := by decide +kernel
theorem dX10_isWithin_3 : decode cX10_isWithin 3 = .ok (.ifCond .lt 21, 3) := by decide +kernel
theorem dX10_isWithin_6 : decode cX10_isWithin 6 = .ok (.iload_n 3, 1) := by decide +kernel
theorem dX10_isWithin_7 : decode cX10_isWithin 7 = .ok (.iload_n 2, 1) := by decide +kernel
theorem dX10_isWithin_8 : decode cX10_isWithin 8 = .ok (.if_icmp .eq 16, 3) := by decide +kernel
theorem dX10_isWithin_11 : decode cX10_isWithin 11 = .ok (.aload_n 0, 1) := by decide +kernel
theorem dX10_isWithin_12 : decode cX10_isWithin 12 = .ok (.getfield 13, 3) := by decide +kernel
theorem dX10_isWithin_15 : decode cX10_isWithin 15 = .ok (.bipush 32, 2) := by decide +kernel
theorem dX10_isWithin_17 : decode cX10_isWithin 17 = .ok (.iload_n 3, 1) := by decide +kernel
theorem dX10_isWithin_18 : decode cX10_isWithin 18 = .ok (.iadd, 1) := by decide +kernel
theorem dX10_isWithin_19 : decode cX10_isWithin 19 = .ok (.iaload, 1) := by decide +kernel
theorem dX10_isWithin_20 : decode cX10_isWithin 20 = .ok (.istore_n 3, 1) := by decide +kernel
theorem dX10_isWithin_21 : decode cX10_isWithin 21 = .ok (.goto (-19), 3) := by decide +kernel
theorem dX10_isWithin_24 : decode cX10_isWithin 24 = .ok (.iload_n 3, 1) := by decide +kernel
theorem dX10_isWithin_25 : decode cX10_isWithin 25 = .ok (.iload_n 2, 1) := by decide +kernel
theorem dX10_isWithin_26 : decode cX10_isWithin 26 = .ok (.if_icmp .ne 7, 3) := by decide +kernel
theorem dX10_isWithin_29 : decode cX10_isWithin 29 = .ok (.iconst 1, 1) := by decide +kernel
theorem dX10_isWithin_30 : decode cX10_isWithin 30 = .ok (.goto 4, 3) := by decide +kernel
theorem dX10_isWithin_33 : decode cX10_isWithin 33 = .ok (.iconst 0, 1) := by decide +kernel
theorem dX10_isWithin_34 : decode cX10_isWithin 34 = .ok (.ireturn, 1) := by decide +kernel
set_option maxRecDepth 20000 in
theorem ggX10_globe_X10_in : GoodIn wsX10_globe wsX10_in := goodIn_r _ [8] (by decide +kernel) (by decide +kernel)
set_option maxRecDepth 20000 in
theorem gX10_globe_X10_in : GoodIn wsX10_globe (va_wsS RX10 51 yX10_in wsX10_in) := goodIn_app (goodIn_of _ (by decide +kernel)) ggX10_globe_X10_in
set_option maxRecDepth 20000 in
theorem ggX10_globe_X10_isThere : GoodIn wsX10_globe wsX10_isThere := goodIn_r _ [12, 1, 5, 6, 7, 8, 13, 14, 15, 19, 20, 21, 22, 23, 24, 25, 26, 27, 28, 29, 30, 31, 32, 33, 34, 35, 36, 37, 38] (by decide +kernel) (by decide +kernel)
set_option maxRecDepth 20000 in
theorem gX10_globe_X10_isThere : GoodIn wsX10_globe (wsV RX10 59 RX10 yX10_isThere wsX10_isThere) := goodIn_app (goodIn_of _ (by decide +kernel)) ggX10_globe_X10_isThere
set_option maxRecDepth 20000 in
theorem ggX10_globe_X10_bits : GoodIn wsX10_globe wsX10_bits := goodIn_r _ [18] (by decide +kernel) (by decide +kernel)
set_option maxRecDepth 20000 in
theorem gX10_globe_X10_bits : GoodIn wsX10_globe (va_wsS RX10 67 yX10_bits wsX10_bits) := goodIn_app (goodIn_of _ (by decide +kernel)) ggX10_globe_X10_bits
theorem dX10_globe_0 : decode cX10_globe 0 = .ok (.iload_n 1, 1) := by decide +kernel
theorem dX10_globe_1 : decode cX10_globe 1 = .ok (.iconst 0, 1) := by decide +kernel
theorem dX10_globe_2 : decode cX10_globe 2 = .ok (.bipush 7, 2) := by decide +kernel
theorem dX10_globe_4 : decode cX10_globe 4 = .ok (.invokestatic 51, 3) := by decide +kernel
theorem dX10_globe_7 : decode cX10_globe 7 = .ok (.ifCond .ne 5, 3) := by decide +kernel
theorem dX10_globe_10 : decode cX10_globe 10 = .ok (.iconst (-1), 1) := by decide +kernel
theorem dX10_globe_11 : decode cX10_globe 11 = .ok (.ireturn, 1) := by decide +kernel
theorem dX10_globe_12 : decode cX10_globe 12 = .ok (.iload_n 2, 1) := by decide +kernel
theorem dX10_globe_13 : decode cX10_globe 13 = .ok (.iconst 0, 1) := by decide +kernel
theorem dX10_globe_14 : decode cX10_globe 14 = .ok (.bipush 99, 2) := by decide +kernel
theorem dX10_globe_16 : decode cX10_globe 16 = .ok (.invokestatic 51, 3) := by decide +kernel
theorem dX10_globe_19 : decode cX10_globe 19 = .ok (.ifCond .eq 24, 3) := by decide +kernel
theorem dX10_globe_22 : decode cX10_globe 22 = .ok (.iload_n 3, 1) := by decide +kernel
theorem dX10_globe_23 : decode cX10_globe 23 = .ok (.iconst 0, 1) := by decide +kernel
theorem dX10_globe_24 : decode cX10_globe 24 = .ok (.bipush 99, 2) := by decide +kernel
theorem dX10_globe_26 : decode cX10_globe 26 = .ok (.invokestatic 51, 3) := by decide +kernel
theorem dX10_globe_29 : decode cX10_globe 29 = .ok (.ifCond .eq 14, 3) := by decide +kernel
theorem dX10_globe_32 : decode cX10_globe 32 = .ok (.iload 4, 2) := by decide +kernel
theorem dX10_globe_34 : decode cX10_globe 34 = .ok (.iconst 0, 1) := by decide +kernel
theorem dX10_globe_35 : decode cX10_globe 35 = .ok (.bipush 9, 2) := by decide +kernel
theorem dX10_globe_37 : decode cX10_globe 37 = .ok (.invokestatic 51, 3) := by decide +kernel
theorem dX10_globe_40 : decode cX10_globe 40 = .ok (.ifCond .ne 6, 3) := by decide +kernel
theorem dX10_globe_43 : decode cX10_globe 43 = .ok (.bipush (-2), 2) := by decide +kernel
theorem dX10_globe_45 : decode cX10_globe 45 = .ok (.ireturn, 1) := by decide +kernel
theorem dX10_globe_46 : decode cX10_globe 46 = .ok (.aload_n 0, 1) := by decide +kernel
theorem dX10_globe_47 : decode cX10_globe 47 = .ok (.getfield 7, 3) := by decide +kernel
theorem dX10_globe_50 : decode cX10_globe 50 = .ok (.bipush 32, 2) := by decide +kernel
theorem dX10_globe_52 : decode cX10_globe 52 = .ok (.iload_n 1, 1) := by decide +kernel
theorem dX10_globe_53 : decode cX10_globe 53 = .ok (.iadd, 1) := by decide +kernel
theorem dX10_globe_54 : decode cX10_globe 54 = .ok (.aload_n 0, 1) := by decide +kernel
theorem dX10_globe_55 : decode cX10_globe 55 = .ok (.iload_n 1, 1) := by decide +kernel
theorem dX10_globe_56 : decode cX10_globe 56 = .ok (.invokevirtual 59, 3) := by decide +kernel
theorem dX10_globe_59 : decode cX10_globe 59 = .ok (.ifCond .eq 15, 3) := by decide +kernel
theorem dX10_globe_62 : decode cX10_globe 62 = .ok (.aload_n 0, 1) := by decide +kernel
theorem dX10_globe_63 : decode cX10_globe 63 = .ok (.getfield 7, 3) := by decide +kernel
theorem dX10_globe_66 : decode cX10_globe 66 = .ok (.bipush 32, 2) := by decide +kernel
theorem dX10_globe_68 : decode cX10_globe 68 = .ok (.iload_n 1, 1) := by decide +kernel
theorem dX10_globe_69 : decode cX10_globe 69 = .ok (.iadd, 1) := by decide +kernel
theorem dX10_globe_70 : decode cX10_globe 70 = .ok (.iaload, 1) := by decide +kernel
theorem dX10_globe_71 : decode cX10_globe 71 = .ok (.goto 5, 3) := by decide +kernel
theorem dX10_globe_74 : decode cX10_globe 74 = .ok (.bipush (-6), 2) := by decide +kernel
theorem dX10_globe_76 : decode cX10_globe 76 = .ok (.iastore, 1) := by decide +kernel
theorem dX10_globe_77 : decode cX10_globe 77 = .ok (.aload_n 0, 1) := by decide +kernel
theorem dX10_globe_78 : decode cX10_globe 78 = .ok (.getfield 7, 3) := by decide +kernel
theorem dX10_globe_81 : decode cX10_globe 81 = .ok (.iload_n 1, 1) := by decide +kernel
theorem dX10_globe_82 : decode cX10_globe 82 = .ok (.iload_n 2, 1) := by decide +kernel
theorem dX10_globe_83 : decode cX10_globe 83 = .ok (.iastore, 1) := by decide +kernel
theorem dX10_globe_84 : decode cX10_globe 84 = .ok (.aload_n 0, 1) := by decide +kernel
theorem dX10_globe_85 : decode cX10_globe 85 = .ok (.getfield 7, 3) := by decide +kernel
theorem dX10_globe_88 : decode cX10_globe 88 = .ok (.bipush 8, 2) := by decide +kernel
theorem dX10_globe_90 : decode cX10_globe 90 = .ok (.iload_n 1, 1) := by decide +kernel
theorem dX10_globe_91 : decode cX10_globe 91 = .ok (.iadd, 1) := by decide +kernel
theorem dX10_globe_92 : decode cX10_globe 92 = .ok (.iconst 0, 1) := by decide +kernel
theorem dX10_globe_93 : decode cX10_globe 93 = .ok (.iastore, 1) := by decide +kernel
theorem dX10_globe_94 : decode cX10_globe 94 = .ok (.aload_n 0, 1) := by decide +kernel
theorem dX10_globe_95 : decode cX10_globe 95 = .ok (.getfield 7, 3) := by decide +kernel
theorem dX10_globe_98 : decode cX10_globe 98 = .ok (.bipush 16, 2) := by decide +kernel
theorem dX10_globe_100 : decode cX10_globe 100 = .ok (.iload_n 1, 1) := by decide +kernel
theorem dX10_globe_101 : decode cX10_globe 101 = .ok (.iadd, 1) := by decide +kernel
theorem dX10_globe_102 : decode cX10_globe 102 = .ok (.iconst 0, 1) := by decide +kernel
theorem dX10_globe_103 : decode cX10_globe 103 = .ok (.iastore, 1) := by decide +kernel
theorem dX10_globe_104 : decode cX10_globe 104 = .ok (.aload_n 0, 1) := by decide +kernel
theorem dX10_globe_105 : decode cX10_globe 105 = .ok (.getfield 7, 3) := by decide +kernel
theorem dX10_globe_108 : decode cX10_globe 108 = .ok (.bipush 24, 2) := by decide +kernel
theorem dX10_globe_110 : decode cX10_globe 110 = .ok (.iload_n 1, 1) := by decide +kernel
theorem dX10_globe_111 : decode cX10_globe 111 = .ok (.iadd, 1) := by decide +kernel
theorem dX10_globe_112 : decode cX10_globe 112 = .ok (.iconst 5, 1) := by decide +kernel
theorem dX10_globe_113 : decode cX10_globe 113 = .ok (.iastore, 1) := by decide +kernel
theorem dX10_globe_114 : decode cX10_globe 114 = .ok (.aload_n 0, 1) := by decide +kernel
theorem dX10_globe_115 : decode cX10_globe 115 = .ok (.getfield 7, 3) := by decide +kernel
theorem dX10_globe_118 : decode cX10_globe 118 = .ok (.bipush 40, 2) := by decide +kernel
theorem dX10_globe_120 : decode cX10_globe 120 = .ok (.dup2, 1) := by decide +kernel
theorem dX10_globe_121 : decode cX10_globe 121 = .ok (.iaload, 1) := by decide +kernel
theorem dX10_globe_122 : decode cX10_globe 122 = .ok (.iconst 1, 1) := by decide +kernel
theorem dX10_globe_123 : decode cX10_globe 123 = .ok (.iload_n 1, 1) := by decide +kernel
theorem dX10_globe_124 : decode cX10_globe 124 = .ok (.ishl, 1) := by decide +kernel
theorem dX10_globe_125 : decode cX10_globe 125 = .ok (.ior, 1) := by decide +kernel
theorem dX10_globe_126 : decode cX10_globe 126 = .ok (.iastore, 1) := by decide +kernel
theorem dX10_globe_127 : decode cX10_globe 127 = .ok (.aload_n 0, 1) := by decide +kernel
theorem dX10_globe_128 : decode cX10_globe 128 = .ok (.getfield 16, 3) := by decide +kernel
theorem dX10_globe_131 : decode cX10_globe 131 = .ok (.iload_n 1, 1) := by decide +kernel
theorem dX10_globe_132 : decode cX10_globe 132 = .ok (.iload_n 3, 1) := by decide +kernel
theorem dX10_globe_133 : decode cX10_globe 133 = .ok (.iastore, 1) := by decide +kernel
theorem dX10_globe_134 : decode cX10_globe 134 = .ok (.aload_n 0, 1) := by decide +kernel
theorem dX10_globe_135 : decode cX10_globe 135 = .ok (.getfield 19, 3) := by decide +kernel
theorem dX10_globe_138 : decode cX10_globe 138 = .ok (.iload_n 1, 1) := by decide +kernel
theorem dX10_globe_139 : decode cX10_globe 139 = .ok (.iload 4, 2) := by decide +kernel
theorem dX10_globe_141 : decode cX10_globe 141 = .ok (.iastore, 1) := by decide +kernel
theorem dX10_globe_142 : decode cX10_globe 142 = .ok (.aload_n 0, 1) := by decide +kernel
theorem dX10_globe_143 : decode cX10_globe 143 = .ok (.dup, 1) := by decide +kernel
theorem dX10_globe_144 : decode cX10_globe 144 = .ok (.getfield 63, 3) := by decide +kernel
theorem dX10_globe_147 : decode cX10_globe 147 = .ok (.iconst 1, 1) := by decide +kernel
theorem dX10_globe_148 : decode cX10_globe 148 = .ok (.iload_n 1, 1) := by decide +kernel
theorem dX10_globe_149 : decode cX10_globe 149 = .ok (.ishl, 1) := by decide +kernel
theorem dX10_globe_150 : decode cX10_globe 150 = .ok (.iconst (-1), 1) := by decide +kernel
theorem dX10_globe_151 : decode cX10_globe 151 = .ok (.ixor, 1) := by decide +kernel
theorem dX10_globe_152 : decode cX10_globe 152 = .ok (.iand, 1) := by decide +kernel
theorem dX10_globe_153 : decode cX10_globe 153 = .ok (.putfield 63, 3) := by decide +kernel
